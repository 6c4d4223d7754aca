/-! THE CLAIM OUT OF ONE WALK OF THE LAW'S BODY. Your part is whole_start (and what it stands on); all else here is the same for every law, but numbers. -/
def R_law : String := "VaneTownLaw"
def lw_P (b : Addr) (xs : List Int32) (args : Array Value) (s : State) : Prop := args = #[.ref b] ∧ s.IntsAt b xs ∧ xs.length ≤ 3072 ∧ (Jvm.Cond.and given_1 narrow_1).before args s = true
def lw_Q (_ : Array Value) (s : State) (o : Outcome) (t : State) : Prop := o = .returned (some (.int 1)) ∧ Framed s o t [] 600000 7302250
def lw_Z (below : List Frame) (a : Array Value) (s : State) : State → Prop := fun t => ∃ o, t.status = .running ∧ Ended t below o ∧ lw_Q a s o t
/-- the law's own end, with 1 on the stack, nothing written that was there before, its room as the claim has it -/
theorem lw_ret {p : Program} {l : Launch} {e : Env} {s : State} {m : MethodId} {below : List Frame} {meth : Method} {c : Code} {b : Nat} (hx : p.tables.exec = Jvm.exec) (hb : c.code = code) (hr : meth.sig.returnType = ret) (hlocks : meth.locks = false) {pc : Nat} {H : Heap} {ls : Array Slot} (hdg : decode code pc = .ok (.ireturn, 1)) : W p l e room_1 s m #[Value.ref b] below meth c H [] 600000 7302250 (lw_Z below #[Value.ref b] s) (F0 m pc ls [.int 1]) := by
  intro T hT X
  obtain ⟨fs, hret, hrun, hended, hW, hframe⟩ := X.leave (v := some (.int 1)) (hlocks := hlocks) (fun h => by rw [hr] at h; cases h)
  have hmeth' : T.vm.method? m = some meth := X.method'
  refine ⟨T.setFrames fs, ?_, .returned (some (.int 1)), hrun, hended, rfl, ⟨_, rfl⟩, hW, hframe⟩
  jvm_step X.here [X.here.top, hx, hb, hdg, hmeth', hr, ret, narrow_b1]
  (try refine ⟨rfl, ?_⟩); (try refine ⟨rfl, ?_⟩)
  first | (intro acts; rw [hret _ acts rfl rfl rfl]) | rw [hret _ _ rfl rfl rfl]
  exact Steps.refl _
/-- what holds at the law's entry: the machine, the code, the tables' words (any of lw_tbl by 'hts w (by decide +kernel)'), the script of L ints xs at the cell b, what the Statement gives of the start (any of its parts by flat_of_before) -/
def lw_At (p : Program) (s : State) (m : MethodId) (meth : Method) (c : Code) (b L : Nat) (xs : Nat → Int32) : Prop :=
  p.tables.exec = Jvm.exec ∧ c.code = code ∧ meth.sig.returnType = ret ∧ c.maxLocals = 4 ∧ s.vm.findClass R_law = some m.cls ∧ (∀ w ∈ lw_tbl, w.before #[Value.ref b] s = true) ∧ va_X b L xs s s.heap ∧ b < s.heap.size ∧ meth.locks = false ∧ (Jvm.Cond.and given_1 narrow_1).before #[Value.ref b] s = true
/-! THE LAW's own frame: the script at b, of Ln ints xs -/
abbrev uC : Nat := 181
abbrev uS : Nat := 29131
abbrev FL0 (p : Program) (s : State) (m : MethodId) (meth : Method) (c : Code) (b : Nat) : Prop :=
  p.tables.exec = Jvm.exec ∧ c.code = cL_law ∧ c.maxLocals = 4 ∧ meth.sig.returnType = ret ∧ s.vm.findClass RL = some m.cls ∧ (∀ w ∈ GW, w.before #[Value.ref b] s = true) ∧ meth.locks = false
def JL (l : Launch) (E : EV) (b Ln : Nat) (xs : Nat → Int32) (σ : Mm) (pc : Nat) (L : List (Nat × Value)) (st : List Value) : Prop :=
  ∀ (p : Program) (e : Env) (s : State) (m : MethodId) (below : List Frame) (meth : Method) (c : Code) (H : Heap) (locs : List Loc) (ls : Array Slot), FL0 p s m meth c b → WO E σ s H → va_S (e_A E) s.heap H locs → e_B E = s.heap.size → (va_X b Ln xs s s.heap ∧ b < s.heap.size) → lv_has ls 4 L →
    W p l e room_1 s m #[Value.ref b] below meth c H locs uC uS (lw_Z below #[Value.ref b] s) (F0 m pc ls st)
section JLL
variable {l : Launch} {E : EV} {b Ln : Nat} {xs : Nat → Int32} {σ : Mm} {pc : Nat} {L L' : List (Nat × Value)} {st : List Value} {α : Type} {ρ : α}
theorem JL_iconst {n : Int} (v : Int32) (hd : decode cL_law pc = .ok (.iconst n, 1)) (hv : Int32.ofInt n = v) (k : JL l E b Ln xs σ (pc + 1) L (.int v :: st)) : JL l E b Ln xs σ pc L (st) :=
  fun p e s m below meth c H locs ls X hW hS hB hX hl => lv_iconst X.1 X.2.1 hd hv (k p e s m below meth c H locs ls X hW hS hB hX hl)
theorem JL_bipush {n : Int} (v : Int32) (hd : decode cL_law pc = .ok (.bipush n, 2)) (hv : (Int8.ofInt n).toInt32 = v) (k : JL l E b Ln xs σ (pc + 2) L (.int v :: st)) : JL l E b Ln xs σ pc L (st) :=
  fun p e s m below meth c H locs ls X hW hS hB hX hl => lv_bipush X.1 X.2.1 hd hv (k p e s m below meth c H locs ls X hW hS hB hX hl)
theorem JL_ldc2 {idx : Nat} (v : Int64) (hd : decode cL_law pc = .ok (.ldc2_w idx, 3)) (hc : Cond.constantLong RL idx v ∈ GW) (k : JL l E b Ln xs σ (pc + 3) L (.long v :: st)) : JL l E b Ln xs σ pc L (st) :=
  fun p e s m below meth c H locs ls X hW hS hB hX hl => lv_ldc2 X.1 X.2.1 X.2.2.2.2.1 (X.2.2.2.2.2.1 _ hc) hd (k p e s m below meth c H locs ls X hW hS hB hX hl)
theorem JL_iload_n {i : Fin 4} {x : Int32} (q : Nat) (hd : decode cL_law pc = .ok (.iload_n i, 1)) (hq : L[q]? = some ((i : Nat), .int x)) (k : JL l E b Ln xs σ (pc + 1) L (.int x :: st)) : JL l E b Ln xs σ pc L (st) :=
  fun p e s m below meth c H locs ls X hW hS hB hX hl => lv_iload_n X.1 X.2.1 hd rfl (lv_at hl q hq) (k p e s m below meth c H locs ls X hW hS hB hX hl)
theorem JL_aload_n {i : Fin 4} {x : Nat} (q : Nat) (hd : decode cL_law pc = .ok (.aload_n i, 1)) (hq : L[q]? = some ((i : Nat), .ref x)) (k : JL l E b Ln xs σ (pc + 1) L (.ref x :: st)) : JL l E b Ln xs σ pc L (st) :=
  fun p e s m below meth c H locs ls X hW hS hB hX hl => lv_aload_n X.1 X.2.1 hd rfl (lv_at hl q hq) (k p e s m below meth c H locs ls X hW hS hB hX hl)
theorem JL_iadd {a b1 : Int32} (hd : decode cL_law pc = .ok (.iadd, 1)) (k : JL l E b Ln xs σ (pc + 1) L (.int (a + b1) :: st)) : JL l E b Ln xs σ pc L (.int b1 :: .int a :: st) :=
  fun p e s m below meth c H locs ls X hW hS hB hX hl => lv_iadd X.1 X.2.1 hd (k p e s m below meth c H locs ls X hW hS hB hX hl)
theorem JL_isub {a b1 : Int32} (hd : decode cL_law pc = .ok (.isub, 1)) (k : JL l E b Ln xs σ (pc + 1) L (.int (a - b1) :: st)) : JL l E b Ln xs σ pc L (.int b1 :: .int a :: st) :=
  fun p e s m below meth c H locs ls X hW hS hB hX hl => lv_isub X.1 X.2.1 hd (k p e s m below meth c H locs ls X hW hS hB hX hl)
theorem JL_iand {a b1 : Int32} (hd : decode cL_law pc = .ok (.iand, 1)) (k : JL l E b Ln xs σ (pc + 1) L (.int (a &&& b1) :: st)) : JL l E b Ln xs σ pc L (.int b1 :: .int a :: st) :=
  fun p e s m below meth c H locs ls X hW hS hB hX hl => lv_iand X.1 X.2.1 hd (k p e s m below meth c H locs ls X hW hS hB hX hl)
theorem JL_land {a b1 : Int64} (hd : decode cL_law pc = .ok (.land, 1)) (k : JL l E b Ln xs σ (pc + 1) L (.long (a &&& b1) :: st)) : JL l E b Ln xs σ pc L (.long b1 :: .long a :: st) :=
  fun p e s m below meth c H locs ls X hW hS hB hX hl => lv_land X.1 X.2.1 hd (k p e s m below meth c H locs ls X hW hS hB hX hl)
theorem JL_lor {a b1 : Int64} (hd : decode cL_law pc = .ok (.lor, 1)) (k : JL l E b Ln xs σ (pc + 1) L (.long (a ||| b1) :: st)) : JL l E b Ln xs σ pc L (.long b1 :: .long a :: st) :=
  fun p e s m below meth c H locs ls X hW hS hB hX hl => lv_lor X.1 X.2.1 hd (k p e s m below meth c H locs ls X hW hS hB hX hl)
theorem JL_lshl {a : Int64} {b1 : Int32} (hd : decode cL_law pc = .ok (.lshl, 1)) (k : JL l E b Ln xs σ (pc + 1) L (.long (a <<< (b1.toInt64 &&& 63)) :: st)) : JL l E b Ln xs σ pc L (.int b1 :: .long a :: st) :=
  fun p e s m below meth c H locs ls X hW hS hB hX hl => lv_lshl X.1 X.2.1 hd rfl (k p e s m below meth c H locs ls X hW hS hB hX hl)
theorem JL_i2l {a : Int32} (hd : decode cL_law pc = .ok (.i2l, 1)) (k : JL l E b Ln xs σ (pc + 1) L (.long (a.toInt64) :: st)) : JL l E b Ln xs σ pc L (.int a :: st) :=
  fun p e s m below meth c H locs ls X hW hS hB hX hl => lv_i2l X.1 X.2.1 hd rfl (k p e s m below meth c H locs ls X hW hS hB hX hl)
theorem JL_lcmp {a b1 : Int64} (hd : decode cL_law pc = .ok (.lcmp, 1)) (k : JL l E b Ln xs σ (pc + 1) L (.int (lg_cmp a b1) :: st)) : JL l E b Ln xs σ pc L (.long b1 :: .long a :: st) :=
  fun p e s m below meth c H locs ls X hW hS hB hX hl => W.lcmp X.1 X.2.1 hd (k p e s m below meth c H locs ls X hW hS hB hX hl)
theorem JL_goto {off : Int} (t : Nat) (hd : decode cL_law pc = .ok (.goto off, 3)) (ht : (pc : Int) + off = (t : Int)) (k : JL l E b Ln xs σ t L st) : JL l E b Ln xs σ pc L st :=
  fun p e s m below meth c H locs ls X hW hS hB hX hl => lv_goto X.1 X.2.1 hd ht (k p e s m below meth c H locs ls X hW hS hB hX hl)
theorem JL_iinc {i : Nat} {n : Int} {x : Int32} (q : Nat) (v : Int32) (hd : decode cL_law pc = .ok (.iinc i n, 3)) (hq : L[q]? = some (i, .int x)) (hv : x + Int32.ofInt n = v) (hn : i < 4) (hL : s_1 L i (.int v) = L') (k : JL l E b Ln xs σ (pc + 3) L' st) : JL l E b Ln xs σ pc L st :=
  fun p e s m below meth c H locs ls X hW hS hB hX hl => lv_iinc X.1 X.2.1 hd hl hq hv hn hL (fun ls' hl' => k p e s m below meth c H locs ls' X hW hS hB hX hl')
theorem JL_sub (ks : List Nat) (h : lv_pick L ks = L') (k : JL l E b Ln xs σ pc L' st) : JL l E b Ln xs σ pc L st :=
  fun p e s m below meth c H locs ls X hW hS hB hX hl => k p e s m below meth c H locs ls X hW hS hB hX (lv_sub hl ks h)
theorem JL_tableIn {dflt lo hi off : Int} {offs : Array Int} {len : Nat} {x : Int32} (t : Nat) (hd : decode cL_law pc = .ok (.tableswitch dflt lo hi offs, len)) (h1 : ¬ x.toInt < lo) (h2 : ¬ hi < x.toInt) (ho : offs[(x.toInt - lo).toNat]? = some off) (ht : (pc : Int) + off = (t : Int)) (k : JL l E b Ln xs σ t L st) : JL l E b Ln xs σ pc L (.int x :: st) :=
  fun p e s m below meth c H locs ls X hW hS hB hX hl => lv_tableIn X.1 X.2.1 hd h1 h2 ho ht (k p e s m below meth c H locs ls X hW hS hB hX hl)
theorem JL_tableOut {dflt lo hi : Int} {offs : Array Int} {len : Nat} {x : Int32} (t : Nat) (hd : decode cL_law pc = .ok (.tableswitch dflt lo hi offs, len)) (h1 : x.toInt < lo ∨ hi < x.toInt) (ht : (pc : Int) + dflt = (t : Int)) (k : JL l E b Ln xs σ t L st) : JL l E b Ln xs σ pc L (.int x :: st) :=
  fun p e s m below meth c H locs ls X hW hS hB hX hl => lv_tableOut X.1 X.2.1 hd h1 ht (k p e s m below meth c H locs ls X hW hS hB hX hl)
theorem JL_if_eq {A B : Option α} {x : Int32} {off : Int} [Decidable (x = 0)] (t : Nat) (hd : decode cL_law pc = .ok (.ifCond .eq off, 3)) (ht : (pc : Int) + off = (t : Int)) (h : (if x = 0 then A else B) = some ρ) (kt : A = some ρ → JL l E b Ln xs σ t L st) (kf : B = some ρ → JL l E b Ln xs σ (pc + 3) L st) : JL l E b Ln xs σ pc L (.int x :: st) :=
  fun p e s m below meth c H locs ls X hW hS hB hX hl => lv_if_eq X.1 X.2.1 hd ht (fun hc => kt (by rw [if_pos hc] at h; exact h) p e s m below meth c H locs ls X hW hS hB hX hl) (fun hc => kf (by rw [if_neg hc] at h; exact h) p e s m below meth c H locs ls X hW hS hB hX hl)
theorem JL_icmp_eq {A B : Option α} {x z : Int32} {off : Int} [Decidable (x = z)] (t : Nat) (hd : decode cL_law pc = .ok (.if_icmp .eq off, 3)) (ht : (pc : Int) + off = (t : Int)) (h : (if x = z then A else B) = some ρ) (kt : A = some ρ → JL l E b Ln xs σ t L st) (kf : B = some ρ → JL l E b Ln xs σ (pc + 3) L st) : JL l E b Ln xs σ pc L (.int z :: .int x :: st) :=
  fun p e s m below meth c H locs ls X hW hS hB hX hl => lv_icmp_eq X.1 X.2.1 hd ht (fun hc => kt (by rw [if_pos hc] at h; exact h) p e s m below meth c H locs ls X hW hS hB hX hl) (fun hc => kf (by rw [if_neg hc] at h; exact h) p e s m below meth c H locs ls X hW hS hB hX hl)
theorem JL_icmp_gt {A B : Option α} {x z : Int32} {off : Int} [Decidable (z < x)] (t : Nat) (hd : decode cL_law pc = .ok (.if_icmp .gt off, 3)) (ht : (pc : Int) + off = (t : Int)) (h : (if z < x then A else B) = some ρ) (kt : A = some ρ → JL l E b Ln xs σ t L st) (kf : B = some ρ → JL l E b Ln xs σ (pc + 3) L st) : JL l E b Ln xs σ pc L (.int z :: .int x :: st) :=
  fun p e s m below meth c H locs ls X hW hS hB hX hl => lv_icmp_gt X.1 X.2.1 hd ht (fun hc => kt (by rw [if_pos hc] at h; exact h) p e s m below meth c H locs ls X hW hS hB hX hl) (fun hc => kf (by rw [if_neg hc] at h; exact h) p e s m below meth c H locs ls X hW hS hB hX hl)
def g_xs (Ln : Nat) (xs : Nat → Int32) (i : Int32) (K : Int32 → Option α) : Option α := if i < 0 ∨ Ln ≤ i.toNatClampNeg then none else K (xs i.toNatClampNeg)
theorem JL_xlen (hd : decode cL_law pc = .ok (.arraylength, 1)) (k : JL l E b Ln xs σ (pc + 1) L (.int (Int32.ofNat Ln) :: st)) : JL l E b Ln xs σ pc L (.ref b :: st) :=
  fun p e s m below meth c H locs ls X hW hS hB hX hl => va_slen X.1 X.2.1 hX.1 hX.2 (by show ¬ e_B E ≤ b; rw [hB]; exact Nat.not_le.mpr hX.2) hS hd (k p e s m below meth c H locs ls X hW hS hB hX hl)
theorem JL_xald {i : Int32} {K : Int32 → Option α} (hd : decode cL_law pc = .ok (.iaload, 1)) (h : g_xs Ln xs i K = some ρ) (k : ∀ x, K x = some ρ → JL l E b Ln xs σ (pc + 1) L (.int x :: st)) : JL l E b Ln xs σ pc L (.int i :: .ref b :: st) := by
  intro p e s m below meth c H locs ls X hW hS hB hX hl
  unfold g_xs at h
  split at h
  · cases h
  rename_i hi
  exact va_sld X.1 X.2.1 hX.1 hX.2 (by show ¬ e_B E ≤ b; rw [hB]; exact Nat.not_le.mpr hX.2) hS hi hd (k _ h p e s m below meth c H locs ls X hW hS hB hX hl)
theorem room1_ok {d' n : Nat} (h : d' ≤ 12) (hn : n ≤ 20) : (rmH d').frames + 1 ≤ room_1.frames ∧ 8 + (n + 11) + (rmH d').locals ≤ room_1.locals := by
  simp only [rmH, room_1]
  omega
theorem JL_callV {z : MI} {d' ci idx o n : Nat} {As rest : List Value} {R1 : Option Value × Mm} (hC : Ct l E z d' (.ref (e_a E o 0) :: As) σ R1) (hd : decode cL_law pc = .ok (.invokevirtual idx, 3)) (hl : Cond.methodLink RL idx z.1 ∈ GW) (hz : MV z ci n) (ho : KD o = ci) (hn : As.length = n) (hdd : d' ≤ 12) (hst : st = As.reverse ++ .ref (e_a E o 0) :: rest) (hr : (rest.map fun v => v.category).sum ≤ 8)
    (kk : JL l E b Ln xs R1.2 (pc + 3) L (R1.1.toList ++ rest)) : JL l E b Ln xs σ pc L st := by
  intro p e s m below meth c H locs ls X hW hS hB hX hls
  obtain ⟨⟨T, N, hc⟩, h13, hi, hse, hini, hcode, hy, hdesc, hmx⟩ := hz
  subst ho
  have hts := X.2.2.2.2.2.1
  obtain ⟨cell, q1, q2, q3, -⟩ := hW.2.2.2.1 o h13
  have hrun := va_runV (l := l) (C := z.1.cls) (As := As) (rest := rest) (b := e_a E o 0) (Ts := GW) (g := F0 m pc ls st) (cells := uC) (slots := uS) (locs := locs) (below := below) (meth := meth) (p := p) (e := e) (R := room_1) (H := H) (nL := 4) ⟨X.1, X.2.1, X.2.2.1, X.2.2.2.2.1, hts⟩ hC ⟨⟨rfl, rfl, (room1_ok hdd hmx).1, (room1_ok hdd hmx).2, GW_good hts hcode, List.mem_cons_self, hts _ hcode, hts _ hini, hy, fun sig h => by rw [h] at hdesc; exact (Option.some.inj hdesc).symm, hts _ hl⟩, hts _ hi, hts _ hse⟩ ⟨Ct.blind, ⟨cell, q1, by rw [q3]; rfl, by rw [q2]; exact (hW.2.1.1.1 _ _ hc).2.1⟩, fun U hU hw => ⟨rfl, hW.warm hw hU⟩⟩ rfl hn hls.1 hst (lv_room hr) hd ⟨by decide, by decide⟩
  intro T hT Z
  obtain ⟨v, st₀, t, T', L2, h0, Z', hL, e1, e2, ⟨hv, hw, hz, hk⟩, step⟩ := hrun T hT Z
  cases hv
  rw [h0] at hz hk
  have hal : T'.vm.Alike s.vm := Z'.warmed.alike.symm
  have hW' : WO E R1.2 s T'.heap := by
    rw [e1]
    exact ⟨hw.1, hW.2.1, SH.moved (s := t) (U := s) (by rw [← e2]; exact hal) hw.2.2.1, hw.2.2.2⟩
  have hS' : va_S (e_A E) s.heap T'.heap (locs ++ L2) := ⟨Nat.le_trans hS.1 (by rw [e1]; exact hz), fun q h1 h2 => by rw [e1, hk q (Nat.lt_of_lt_of_le h1 hS.1) h2]; exact hS.2.1 q h1 h2, fun q hq => by
    rcases List.mem_append.mp hq with h | h
    · exact hS.2.2 q h
    · exact hL q h⟩
  obtain ⟨t2, a1, b1⟩ := kk p e s m below meth c T'.heap (locs ++ L2) ls X hW' hS' hB hX hls T' rfl Z'
  exact ⟨t2, step t2 a1, b1⟩
theorem JL_cVi {z : MI} {d' ci idx o n : Nat} {As rest : List Value} {x : Int32} {τ : Mm} (hC : Ct l E z d' (.ref (e_a E o 0) :: As) σ (some (.int x), τ)) (hd : decode cL_law pc = .ok (.invokevirtual idx, 3)) (hl : Cond.methodLink RL idx z.1 ∈ GW) (hz : MV z ci n) (ho : KD o = ci) (hn : As.length = n) (hdd : d' ≤ 12) (hst : st = As.reverse ++ .ref (e_a E o 0) :: rest) (hr : (rest.map fun v => v.category).sum ≤ 8) (kk : JL l E b Ln xs τ (pc + 3) L (.int x :: rest)) : JL l E b Ln xs σ pc L st := JL_callV hC hd hl hz ho hn hdd hst hr kk
theorem JL_cVl {z : MI} {d' ci idx o n : Nat} {As rest : List Value} {x : Int64} {τ : Mm} (hC : Ct l E z d' (.ref (e_a E o 0) :: As) σ (some (.long x), τ)) (hd : decode cL_law pc = .ok (.invokevirtual idx, 3)) (hl : Cond.methodLink RL idx z.1 ∈ GW) (hz : MV z ci n) (ho : KD o = ci) (hn : As.length = n) (hdd : d' ≤ 12) (hst : st = As.reverse ++ .ref (e_a E o 0) :: rest) (hr : (rest.map fun v => v.category).sum ≤ 8) (kk : JL l E b Ln xs τ (pc + 3) L (.long x :: rest)) : JL l E b Ln xs σ pc L st := JL_callV hC hd hl hz ho hn hdd hst hr kk
theorem JL_ret (hd : decode cL_law pc = .ok (.ireturn, 1)) : JL l E b Ln xs σ pc L [.int 1] := by
  intro p e s m below meth c H locs ls X hW hS hB hX hl
  refine va_forget (fun q hq => hB ▸ hS.2.2 q hq) ?_
  refine W.widen (k := 600000) (n := 7302250) (by decide) (by decide) ?_
  exact lw_ret X.1 X.2.1 X.2.2.2.1 X.2.2.2.2.2.2 hd
end JLL
def fL_law_264 (Ln : Nat) (xs : Nat → Int32) (k18 : Int32 → Mm → Option Mm) (v3 : Int32) (σ : Mm) : Option Mm := c_I (fX11_status 0 σ) (fun x58 σ56 => c_I (fX12_status 31 σ56) (fun x61 σ59 => if x58 = x61 then (k18 (v3 + (6 : Int32)) σ59) else (none)))
set_option maxRecDepth 100000 in
set_option maxHeartbeats 4000000 in
theorem tL_law_264 (l : Launch) (E : EV) (b : Nat) {τ : Mm} (Ln : Nat) (xs : Nat → Int32) (k18 : Int32 → Mm → Option Mm) (hk18 : ∀ (v3 : Int32) (σ : Mm), k18 v3 σ = some τ → JL l E b Ln xs σ 18 [(0, .ref b), (1, .ref (e_a E 0 0)), (2, .ref (e_a E 31 0)), (3, .int v3)] []) (v3 : Int32) (σ : Mm) (h : fL_law_264 Ln xs k18 v3 σ = some τ) : JL l E b Ln xs σ 264 [(0, .ref b), (1, .ref (e_a E 0 0)), (2, .ref (e_a E 31 0)), (3, .int v3)] [] := by
  unfold fL_law_264 at h
  refine JL_aload_n (pc := 264) 1 dL_law_264 rfl ?_
  obtain ⟨x58, σ56, hc57, h⟩ := cI_t h
  refine JL_cVi (pc := 265) (ctX11_status l E 0 rfl σ hc57) dL_law_265 mlL_13 mvX11_status rfl rfl (by decide) rfl (Nat.le_of_ble_eq_true rfl) ?_
  refine JL_aload_n (pc := 268) 2 dL_law_268 rfl ?_
  obtain ⟨x61, σ59, hc60, h⟩ := cI_t h
  refine JL_cVi (pc := 269) (ctX12_status l E 31 rfl σ56 hc60) dL_law_269 mlL_17 mvX12_status rfl rfl (by decide) rfl (Nat.le_of_ble_eq_true rfl) ?_
  refine JL_icmp_eq (pc := 272) 1802 dL_law_272 (by decide) h (fun h => ?_) (fun h => ?_)
  · refine JL_iinc (pc := 1802) (L' := [(3, .int (v3 + (6 : Int32))), (0, .ref b), (1, .ref (e_a E 0 0)), (2, .ref (e_a E 31 0))]) 3 (v3 + (6 : Int32)) dL_law_1802 rfl (by rfl) (by decide) rfl ?_
    refine JL_goto (pc := 1805) 18 dL_law_1805 (by decide) ?_
    refine JL_sub (L' := [(0, .ref b), (1, .ref (e_a E 0 0)), (2, .ref (e_a E 31 0)), (3, .int (v3 + (6 : Int32)))]) [1, 2, 3, 0] rfl ?_
    exact hk18 (v3 + (6 : Int32)) σ59 h
  · refine JL_iconst (pc := 275) (0 : Int32) dL_law_275 (by decide) ?_
    cases h
def fL_law_277 (Ln : Nat) (xs : Nat → Int32) (k18 : Int32 → Mm → Option Mm) (v3 : Int32) (σ : Mm) : Option Mm := c_L (fX11_top 0 σ) (fun x64 σ62 => c_L (fX12_top 31 σ62) (fun x67 σ65 => if (lg_cmp x64 x67) = 0 then (k18 (v3 + (6 : Int32)) σ65) else (none)))
set_option maxRecDepth 100000 in
set_option maxHeartbeats 4000000 in
theorem tL_law_277 (l : Launch) (E : EV) (b : Nat) {τ : Mm} (Ln : Nat) (xs : Nat → Int32) (k18 : Int32 → Mm → Option Mm) (hk18 : ∀ (v3 : Int32) (σ : Mm), k18 v3 σ = some τ → JL l E b Ln xs σ 18 [(0, .ref b), (1, .ref (e_a E 0 0)), (2, .ref (e_a E 31 0)), (3, .int v3)] []) (v3 : Int32) (σ : Mm) (h : fL_law_277 Ln xs k18 v3 σ = some τ) : JL l E b Ln xs σ 277 [(0, .ref b), (1, .ref (e_a E 0 0)), (2, .ref (e_a E 31 0)), (3, .int v3)] [] := by
  unfold fL_law_277 at h
  refine JL_aload_n (pc := 277) 1 dL_law_277 rfl ?_
  obtain ⟨x64, σ62, hc63, h⟩ := cL_t h
  refine JL_cVl (pc := 278) (ctX11_top l E 0 rfl σ hc63) dL_law_278 mlL_18 mvX11_top rfl rfl (by decide) rfl (Nat.le_of_ble_eq_true rfl) ?_
  refine JL_aload_n (pc := 281) 2 dL_law_281 rfl ?_
  obtain ⟨x67, σ65, hc66, h⟩ := cL_t h
  refine JL_cVl (pc := 282) (ctX12_top l E 31 rfl σ62 hc66) dL_law_282 mlL_22 mvX12_top rfl rfl (by decide) rfl (Nat.le_of_ble_eq_true rfl) ?_
  refine JL_lcmp (pc := 285) dL_law_285 ?_
  refine JL_if_eq (pc := 286) 1802 dL_law_286 (by decide) h (fun h => ?_) (fun h => ?_)
  · refine JL_iinc (pc := 1802) (L' := [(3, .int (v3 + (6 : Int32))), (0, .ref b), (1, .ref (e_a E 0 0)), (2, .ref (e_a E 31 0))]) 3 (v3 + (6 : Int32)) dL_law_1802 rfl (by rfl) (by decide) rfl ?_
    refine JL_goto (pc := 1805) 18 dL_law_1805 (by decide) ?_
    refine JL_sub (L' := [(0, .ref b), (1, .ref (e_a E 0 0)), (2, .ref (e_a E 31 0)), (3, .int (v3 + (6 : Int32)))]) [1, 2, 3, 0] rfl ?_
    exact hk18 (v3 + (6 : Int32)) σ65 h
  · refine JL_iconst (pc := 289) (0 : Int32) dL_law_289 (by decide) ?_
    cases h
def fL_law_291 (Ln : Nat) (xs : Nat → Int32) (k18 : Int32 → Mm → Option Mm) (v3 : Int32) (σ : Mm) : Option Mm := c_L (fX11_bottom 0 σ) (fun x70 σ68 => c_L (fX12_bottom 31 σ68) (fun x73 σ71 => if (lg_cmp x70 x73) = 0 then (k18 (v3 + (6 : Int32)) σ71) else (none)))
set_option maxRecDepth 100000 in
set_option maxHeartbeats 4000000 in
theorem tL_law_291 (l : Launch) (E : EV) (b : Nat) {τ : Mm} (Ln : Nat) (xs : Nat → Int32) (k18 : Int32 → Mm → Option Mm) (hk18 : ∀ (v3 : Int32) (σ : Mm), k18 v3 σ = some τ → JL l E b Ln xs σ 18 [(0, .ref b), (1, .ref (e_a E 0 0)), (2, .ref (e_a E 31 0)), (3, .int v3)] []) (v3 : Int32) (σ : Mm) (h : fL_law_291 Ln xs k18 v3 σ = some τ) : JL l E b Ln xs σ 291 [(0, .ref b), (1, .ref (e_a E 0 0)), (2, .ref (e_a E 31 0)), (3, .int v3)] [] := by
  unfold fL_law_291 at h
  refine JL_aload_n (pc := 291) 1 dL_law_291 rfl ?_
  obtain ⟨x70, σ68, hc69, h⟩ := cL_t h
  refine JL_cVl (pc := 292) (ctX11_bottom l E 0 rfl σ hc69) dL_law_292 mlL_23 mvX11_bottom rfl rfl (by decide) rfl (Nat.le_of_ble_eq_true rfl) ?_
  refine JL_aload_n (pc := 295) 2 dL_law_295 rfl ?_
  obtain ⟨x73, σ71, hc72, h⟩ := cL_t h
  refine JL_cVl (pc := 296) (ctX12_bottom l E 31 rfl σ68 hc72) dL_law_296 mlL_26 mvX12_bottom rfl rfl (by decide) rfl (Nat.le_of_ble_eq_true rfl) ?_
  refine JL_lcmp (pc := 299) dL_law_299 ?_
  refine JL_if_eq (pc := 300) 1802 dL_law_300 (by decide) h (fun h => ?_) (fun h => ?_)
  · refine JL_iinc (pc := 1802) (L' := [(3, .int (v3 + (6 : Int32))), (0, .ref b), (1, .ref (e_a E 0 0)), (2, .ref (e_a E 31 0))]) 3 (v3 + (6 : Int32)) dL_law_1802 rfl (by rfl) (by decide) rfl ?_
    refine JL_goto (pc := 1805) 18 dL_law_1805 (by decide) ?_
    refine JL_sub (L' := [(0, .ref b), (1, .ref (e_a E 0 0)), (2, .ref (e_a E 31 0)), (3, .int (v3 + (6 : Int32)))]) [1, 2, 3, 0] rfl ?_
    exact hk18 (v3 + (6 : Int32)) σ71 h
  · refine JL_iconst (pc := 303) (0 : Int32) dL_law_303 (by decide) ?_
    cases h
def fL_law_305 (Ln : Nat) (xs : Nat → Int32) (k18 : Int32 → Mm → Option Mm) (v3 : Int32) (σ : Mm) : Option Mm := g_xs Ln xs (v3 + (1 : Int32)) (fun x74 => g_xs Ln xs (v3 + (2 : Int32)) (fun x75 => g_xs Ln xs (v3 + (3 : Int32)) (fun x76 => c_I (fX11_tray 0 x74 x75 x76 σ) (fun x79 σ77 => g_xs Ln xs (v3 + (1 : Int32)) (fun x80 => g_xs Ln xs (v3 + (2 : Int32)) (fun x81 => g_xs Ln xs (v3 + (3 : Int32)) (fun x82 => c_I (fX12_tray 31 x80 x81 x82 σ77) (fun x85 σ83 => if x79 = x85 then (k18 (v3 + (6 : Int32)) σ83) else (none)))))))))
set_option maxRecDepth 100000 in
set_option maxHeartbeats 4000000 in
theorem tL_law_305 (l : Launch) (E : EV) (b : Nat) {τ : Mm} (Ln : Nat) (xs : Nat → Int32) (k18 : Int32 → Mm → Option Mm) (hk18 : ∀ (v3 : Int32) (σ : Mm), k18 v3 σ = some τ → JL l E b Ln xs σ 18 [(0, .ref b), (1, .ref (e_a E 0 0)), (2, .ref (e_a E 31 0)), (3, .int v3)] []) (v3 : Int32) (σ : Mm) (h : fL_law_305 Ln xs k18 v3 σ = some τ) : JL l E b Ln xs σ 305 [(0, .ref b), (1, .ref (e_a E 0 0)), (2, .ref (e_a E 31 0)), (3, .int v3)] [] := by
  unfold fL_law_305 at h
  refine JL_aload_n (pc := 305) 1 dL_law_305 rfl ?_
  refine JL_aload_n (pc := 306) 0 dL_law_306 rfl ?_
  refine JL_iload_n (pc := 307) 3 dL_law_307 rfl ?_
  refine JL_iconst (pc := 308) (1 : Int32) dL_law_308 (by decide) ?_
  refine JL_iadd (pc := 309) dL_law_309 ?_
  refine JL_xald (pc := 310) dL_law_310 h (fun x74 h => ?_)
  refine JL_aload_n (pc := 311) 0 dL_law_311 rfl ?_
  refine JL_iload_n (pc := 312) 3 dL_law_312 rfl ?_
  refine JL_iconst (pc := 313) (2 : Int32) dL_law_313 (by decide) ?_
  refine JL_iadd (pc := 314) dL_law_314 ?_
  refine JL_xald (pc := 315) dL_law_315 h (fun x75 h => ?_)
  refine JL_aload_n (pc := 316) 0 dL_law_316 rfl ?_
  refine JL_iload_n (pc := 317) 3 dL_law_317 rfl ?_
  refine JL_iconst (pc := 318) (3 : Int32) dL_law_318 (by decide) ?_
  refine JL_iadd (pc := 319) dL_law_319 ?_
  refine JL_xald (pc := 320) dL_law_320 h (fun x76 h => ?_)
  obtain ⟨x79, σ77, hc78, h⟩ := cI_t h
  refine JL_cVi (pc := 321) (ctX11_tray l E 0 x74 x75 x76 rfl σ hc78) dL_law_321 mlL_27 mvX11_tray rfl rfl (by decide) rfl (Nat.le_of_ble_eq_true rfl) ?_
  refine JL_aload_n (pc := 324) 2 dL_law_324 rfl ?_
  refine JL_aload_n (pc := 325) 0 dL_law_325 rfl ?_
  refine JL_iload_n (pc := 326) 3 dL_law_326 rfl ?_
  refine JL_iconst (pc := 327) (1 : Int32) dL_law_327 (by decide) ?_
  refine JL_iadd (pc := 328) dL_law_328 ?_
  refine JL_xald (pc := 329) dL_law_329 h (fun x80 h => ?_)
  refine JL_aload_n (pc := 330) 0 dL_law_330 rfl ?_
  refine JL_iload_n (pc := 331) 3 dL_law_331 rfl ?_
  refine JL_iconst (pc := 332) (2 : Int32) dL_law_332 (by decide) ?_
  refine JL_iadd (pc := 333) dL_law_333 ?_
  refine JL_xald (pc := 334) dL_law_334 h (fun x81 h => ?_)
  refine JL_aload_n (pc := 335) 0 dL_law_335 rfl ?_
  refine JL_iload_n (pc := 336) 3 dL_law_336 rfl ?_
  refine JL_iconst (pc := 337) (3 : Int32) dL_law_337 (by decide) ?_
  refine JL_iadd (pc := 338) dL_law_338 ?_
  refine JL_xald (pc := 339) dL_law_339 h (fun x82 h => ?_)
  obtain ⟨x85, σ83, hc84, h⟩ := cI_t h
  refine JL_cVi (pc := 340) (ctX12_tray l E 31 x80 x81 x82 rfl σ77 hc84) dL_law_340 mlL_31 mvX12_tray rfl rfl (by decide) rfl (Nat.le_of_ble_eq_true rfl) ?_
  refine JL_icmp_eq (pc := 343) 1802 dL_law_343 (by decide) h (fun h => ?_) (fun h => ?_)
  · refine JL_iinc (pc := 1802) (L' := [(3, .int (v3 + (6 : Int32))), (0, .ref b), (1, .ref (e_a E 0 0)), (2, .ref (e_a E 31 0))]) 3 (v3 + (6 : Int32)) dL_law_1802 rfl (by rfl) (by decide) rfl ?_
    refine JL_goto (pc := 1805) 18 dL_law_1805 (by decide) ?_
    refine JL_sub (L' := [(0, .ref b), (1, .ref (e_a E 0 0)), (2, .ref (e_a E 31 0)), (3, .int (v3 + (6 : Int32)))]) [1, 2, 3, 0] rfl ?_
    exact hk18 (v3 + (6 : Int32)) σ83 h
  · refine JL_iconst (pc := 346) (0 : Int32) dL_law_346 (by decide) ?_
    cases h
def fL_law_348 (Ln : Nat) (xs : Nat → Int32) (k18 : Int32 → Mm → Option Mm) (v3 : Int32) (σ : Mm) : Option Mm := g_xs Ln xs (v3 + (1 : Int32)) (fun x86 => g_xs Ln xs (v3 + (2 : Int32)) (fun x87 => g_xs Ln xs (v3 + (3 : Int32)) (fun x88 => g_xs Ln xs (v3 + (4 : Int32)) (fun x89 => c_I (fX11_write 0 x86 x87 ((x88.toInt64 <<< ((32 : Int32).toInt64 &&& 63)) ||| (x89.toInt64 &&& (4294967295 : Int64))) σ) (fun x92 σ90 => g_xs Ln xs (v3 + (1 : Int32)) (fun x93 => g_xs Ln xs (v3 + (2 : Int32)) (fun x94 => g_xs Ln xs (v3 + (3 : Int32)) (fun x95 => g_xs Ln xs (v3 + (4 : Int32)) (fun x96 => c_I (fX12_write 31 x93 x94 ((x95.toInt64 <<< ((32 : Int32).toInt64 &&& 63)) ||| (x96.toInt64 &&& (4294967295 : Int64))) σ90) (fun x99 σ97 => if x92 = x99 then (k18 (v3 + (6 : Int32)) σ97) else (none)))))))))))
set_option maxRecDepth 100000 in
set_option maxHeartbeats 4000000 in
theorem tL_law_348 (l : Launch) (E : EV) (b : Nat) {τ : Mm} (Ln : Nat) (xs : Nat → Int32) (k18 : Int32 → Mm → Option Mm) (hk18 : ∀ (v3 : Int32) (σ : Mm), k18 v3 σ = some τ → JL l E b Ln xs σ 18 [(0, .ref b), (1, .ref (e_a E 0 0)), (2, .ref (e_a E 31 0)), (3, .int v3)] []) (v3 : Int32) (σ : Mm) (h : fL_law_348 Ln xs k18 v3 σ = some τ) : JL l E b Ln xs σ 348 [(0, .ref b), (1, .ref (e_a E 0 0)), (2, .ref (e_a E 31 0)), (3, .int v3)] [] := by
  unfold fL_law_348 at h
  refine JL_aload_n (pc := 348) 1 dL_law_348 rfl ?_
  refine JL_aload_n (pc := 349) 0 dL_law_349 rfl ?_
  refine JL_iload_n (pc := 350) 3 dL_law_350 rfl ?_
  refine JL_iconst (pc := 351) (1 : Int32) dL_law_351 (by decide) ?_
  refine JL_iadd (pc := 352) dL_law_352 ?_
  refine JL_xald (pc := 353) dL_law_353 h (fun x86 h => ?_)
  refine JL_aload_n (pc := 354) 0 dL_law_354 rfl ?_
  refine JL_iload_n (pc := 355) 3 dL_law_355 rfl ?_
  refine JL_iconst (pc := 356) (2 : Int32) dL_law_356 (by decide) ?_
  refine JL_iadd (pc := 357) dL_law_357 ?_
  refine JL_xald (pc := 358) dL_law_358 h (fun x87 h => ?_)
  refine JL_aload_n (pc := 359) 0 dL_law_359 rfl ?_
  refine JL_iload_n (pc := 360) 3 dL_law_360 rfl ?_
  refine JL_iconst (pc := 361) (3 : Int32) dL_law_361 (by decide) ?_
  refine JL_iadd (pc := 362) dL_law_362 ?_
  refine JL_xald (pc := 363) dL_law_363 h (fun x88 h => ?_)
  refine JL_i2l (pc := 364) dL_law_364 ?_
  refine JL_bipush (pc := 365) (32 : Int32) dL_law_365 (by decide) ?_
  refine JL_lshl (pc := 367) dL_law_367 ?_
  refine JL_aload_n (pc := 368) 0 dL_law_368 rfl ?_
  refine JL_iload_n (pc := 369) 3 dL_law_369 rfl ?_
  refine JL_iconst (pc := 370) (4 : Int32) dL_law_370 (by decide) ?_
  refine JL_iadd (pc := 371) dL_law_371 ?_
  refine JL_xald (pc := 372) dL_law_372 h (fun x89 h => ?_)
  refine JL_i2l (pc := 373) dL_law_373 ?_
  refine JL_ldc2 (pc := 374) (4294967295 : Int64) dL_law_374 klL_32 ?_
  refine JL_land (pc := 377) dL_law_377 ?_
  refine JL_lor (pc := 378) dL_law_378 ?_
  obtain ⟨x92, σ90, hc91, h⟩ := cI_t h
  refine JL_cVi (pc := 379) (ctX11_write l E 0 x86 x87 ((x88.toInt64 <<< ((32 : Int32).toInt64 &&& 63)) ||| (x89.toInt64 &&& (4294967295 : Int64))) rfl σ hc91) dL_law_379 mlL_34 mvX11_write rfl rfl (by decide) rfl (Nat.le_of_ble_eq_true rfl) ?_
  refine JL_aload_n (pc := 382) 2 dL_law_382 rfl ?_
  refine JL_aload_n (pc := 383) 0 dL_law_383 rfl ?_
  refine JL_iload_n (pc := 384) 3 dL_law_384 rfl ?_
  refine JL_iconst (pc := 385) (1 : Int32) dL_law_385 (by decide) ?_
  refine JL_iadd (pc := 386) dL_law_386 ?_
  refine JL_xald (pc := 387) dL_law_387 h (fun x93 h => ?_)
  refine JL_aload_n (pc := 388) 0 dL_law_388 rfl ?_
  refine JL_iload_n (pc := 389) 3 dL_law_389 rfl ?_
  refine JL_iconst (pc := 390) (2 : Int32) dL_law_390 (by decide) ?_
  refine JL_iadd (pc := 391) dL_law_391 ?_
  refine JL_xald (pc := 392) dL_law_392 h (fun x94 h => ?_)
  refine JL_aload_n (pc := 393) 0 dL_law_393 rfl ?_
  refine JL_iload_n (pc := 394) 3 dL_law_394 rfl ?_
  refine JL_iconst (pc := 395) (3 : Int32) dL_law_395 (by decide) ?_
  refine JL_iadd (pc := 396) dL_law_396 ?_
  refine JL_xald (pc := 397) dL_law_397 h (fun x95 h => ?_)
  refine JL_i2l (pc := 398) dL_law_398 ?_
  refine JL_bipush (pc := 399) (32 : Int32) dL_law_399 (by decide) ?_
  refine JL_lshl (pc := 401) dL_law_401 ?_
  refine JL_aload_n (pc := 402) 0 dL_law_402 rfl ?_
  refine JL_iload_n (pc := 403) 3 dL_law_403 rfl ?_
  refine JL_iconst (pc := 404) (4 : Int32) dL_law_404 (by decide) ?_
  refine JL_iadd (pc := 405) dL_law_405 ?_
  refine JL_xald (pc := 406) dL_law_406 h (fun x96 h => ?_)
  refine JL_i2l (pc := 407) dL_law_407 ?_
  refine JL_ldc2 (pc := 408) (4294967295 : Int64) dL_law_408 klL_32 ?_
  refine JL_land (pc := 411) dL_law_411 ?_
  refine JL_lor (pc := 412) dL_law_412 ?_
  obtain ⟨x99, σ97, hc98, h⟩ := cI_t h
  refine JL_cVi (pc := 413) (ctX12_write l E 31 x93 x94 ((x95.toInt64 <<< ((32 : Int32).toInt64 &&& 63)) ||| (x96.toInt64 &&& (4294967295 : Int64))) rfl σ90 hc98) dL_law_413 mlL_38 mvX12_write rfl rfl (by decide) rfl (Nat.le_of_ble_eq_true rfl) ?_
  refine JL_icmp_eq (pc := 416) 1802 dL_law_416 (by decide) h (fun h => ?_) (fun h => ?_)
  · refine JL_iinc (pc := 1802) (L' := [(3, .int (v3 + (6 : Int32))), (0, .ref b), (1, .ref (e_a E 0 0)), (2, .ref (e_a E 31 0))]) 3 (v3 + (6 : Int32)) dL_law_1802 rfl (by rfl) (by decide) rfl ?_
    refine JL_goto (pc := 1805) 18 dL_law_1805 (by decide) ?_
    refine JL_sub (L' := [(0, .ref b), (1, .ref (e_a E 0 0)), (2, .ref (e_a E 31 0)), (3, .int (v3 + (6 : Int32)))]) [1, 2, 3, 0] rfl ?_
    exact hk18 (v3 + (6 : Int32)) σ97 h
  · refine JL_iconst (pc := 419) (0 : Int32) dL_law_419 (by decide) ?_
    cases h
def fL_law_421 (Ln : Nat) (xs : Nat → Int32) (k18 : Int32 → Mm → Option Mm) (v3 : Int32) (σ : Mm) : Option Mm := g_xs Ln xs (v3 + (1 : Int32)) (fun x100 => g_xs Ln xs (v3 + (2 : Int32)) (fun x101 => c_L (fX11_read 0 x100 x101 σ) (fun x104 σ102 => g_xs Ln xs (v3 + (1 : Int32)) (fun x105 => g_xs Ln xs (v3 + (2 : Int32)) (fun x106 => c_L (fX12_read 31 x105 x106 σ102) (fun x109 σ107 => if (lg_cmp x104 x109) = 0 then (k18 (v3 + (6 : Int32)) σ107) else (none)))))))
set_option maxRecDepth 100000 in
set_option maxHeartbeats 4000000 in
theorem tL_law_421 (l : Launch) (E : EV) (b : Nat) {τ : Mm} (Ln : Nat) (xs : Nat → Int32) (k18 : Int32 → Mm → Option Mm) (hk18 : ∀ (v3 : Int32) (σ : Mm), k18 v3 σ = some τ → JL l E b Ln xs σ 18 [(0, .ref b), (1, .ref (e_a E 0 0)), (2, .ref (e_a E 31 0)), (3, .int v3)] []) (v3 : Int32) (σ : Mm) (h : fL_law_421 Ln xs k18 v3 σ = some τ) : JL l E b Ln xs σ 421 [(0, .ref b), (1, .ref (e_a E 0 0)), (2, .ref (e_a E 31 0)), (3, .int v3)] [] := by
  unfold fL_law_421 at h
  refine JL_aload_n (pc := 421) 1 dL_law_421 rfl ?_
  refine JL_aload_n (pc := 422) 0 dL_law_422 rfl ?_
  refine JL_iload_n (pc := 423) 3 dL_law_423 rfl ?_
  refine JL_iconst (pc := 424) (1 : Int32) dL_law_424 (by decide) ?_
  refine JL_iadd (pc := 425) dL_law_425 ?_
  refine JL_xald (pc := 426) dL_law_426 h (fun x100 h => ?_)
  refine JL_aload_n (pc := 427) 0 dL_law_427 rfl ?_
  refine JL_iload_n (pc := 428) 3 dL_law_428 rfl ?_
  refine JL_iconst (pc := 429) (2 : Int32) dL_law_429 (by decide) ?_
  refine JL_iadd (pc := 430) dL_law_430 ?_
  refine JL_xald (pc := 431) dL_law_431 h (fun x101 h => ?_)
  obtain ⟨x104, σ102, hc103, h⟩ := cL_t h
  refine JL_cVl (pc := 432) (ctX11_read l E 0 x100 x101 rfl σ hc103) dL_law_432 mlL_39 mvX11_read rfl rfl (by decide) rfl (Nat.le_of_ble_eq_true rfl) ?_
  refine JL_aload_n (pc := 435) 2 dL_law_435 rfl ?_
  refine JL_aload_n (pc := 436) 0 dL_law_436 rfl ?_
  refine JL_iload_n (pc := 437) 3 dL_law_437 rfl ?_
  refine JL_iconst (pc := 438) (1 : Int32) dL_law_438 (by decide) ?_
  refine JL_iadd (pc := 439) dL_law_439 ?_
  refine JL_xald (pc := 440) dL_law_440 h (fun x105 h => ?_)
  refine JL_aload_n (pc := 441) 0 dL_law_441 rfl ?_
  refine JL_iload_n (pc := 442) 3 dL_law_442 rfl ?_
  refine JL_iconst (pc := 443) (2 : Int32) dL_law_443 (by decide) ?_
  refine JL_iadd (pc := 444) dL_law_444 ?_
  refine JL_xald (pc := 445) dL_law_445 h (fun x106 h => ?_)
  obtain ⟨x109, σ107, hc108, h⟩ := cL_t h
  refine JL_cVl (pc := 446) (ctX12_read l E 31 x105 x106 rfl σ102 hc108) dL_law_446 mlL_43 mvX12_read rfl rfl (by decide) rfl (Nat.le_of_ble_eq_true rfl) ?_
  refine JL_lcmp (pc := 449) dL_law_449 ?_
  refine JL_if_eq (pc := 450) 1802 dL_law_450 (by decide) h (fun h => ?_) (fun h => ?_)
  · refine JL_iinc (pc := 1802) (L' := [(3, .int (v3 + (6 : Int32))), (0, .ref b), (1, .ref (e_a E 0 0)), (2, .ref (e_a E 31 0))]) 3 (v3 + (6 : Int32)) dL_law_1802 rfl (by rfl) (by decide) rfl ?_
    refine JL_goto (pc := 1805) 18 dL_law_1805 (by decide) ?_
    refine JL_sub (L' := [(0, .ref b), (1, .ref (e_a E 0 0)), (2, .ref (e_a E 31 0)), (3, .int (v3 + (6 : Int32)))]) [1, 2, 3, 0] rfl ?_
    exact hk18 (v3 + (6 : Int32)) σ107 h
  · refine JL_iconst (pc := 453) (0 : Int32) dL_law_453 (by decide) ?_
    cases h
def fL_law_455 (Ln : Nat) (xs : Nat → Int32) (k18 : Int32 → Mm → Option Mm) (v3 : Int32) (σ : Mm) : Option Mm := g_xs Ln xs (v3 + (1 : Int32)) (fun x110 => g_xs Ln xs (v3 + (2 : Int32)) (fun x111 => g_xs Ln xs (v3 + (3 : Int32)) (fun x112 => g_xs Ln xs (v3 + (4 : Int32)) (fun x113 => g_xs Ln xs (v3 + (5 : Int32)) (fun x114 => c_I (fX11_pour 0 x110 x111 x112 x113 x114 σ) (fun x117 σ115 => g_xs Ln xs (v3 + (1 : Int32)) (fun x118 => g_xs Ln xs (v3 + (2 : Int32)) (fun x119 => g_xs Ln xs (v3 + (3 : Int32)) (fun x120 => g_xs Ln xs (v3 + (4 : Int32)) (fun x121 => g_xs Ln xs (v3 + (5 : Int32)) (fun x122 => c_I (fX12_pour 31 x118 x119 x120 x121 x122 σ115) (fun x125 σ123 => if x117 = x125 then (k18 (v3 + (6 : Int32)) σ123) else (none)))))))))))))
set_option maxRecDepth 100000 in
set_option maxHeartbeats 4000000 in
theorem tL_law_455 (l : Launch) (E : EV) (b : Nat) {τ : Mm} (Ln : Nat) (xs : Nat → Int32) (k18 : Int32 → Mm → Option Mm) (hk18 : ∀ (v3 : Int32) (σ : Mm), k18 v3 σ = some τ → JL l E b Ln xs σ 18 [(0, .ref b), (1, .ref (e_a E 0 0)), (2, .ref (e_a E 31 0)), (3, .int v3)] []) (v3 : Int32) (σ : Mm) (h : fL_law_455 Ln xs k18 v3 σ = some τ) : JL l E b Ln xs σ 455 [(0, .ref b), (1, .ref (e_a E 0 0)), (2, .ref (e_a E 31 0)), (3, .int v3)] [] := by
  unfold fL_law_455 at h
  refine JL_aload_n (pc := 455) 1 dL_law_455 rfl ?_
  refine JL_aload_n (pc := 456) 0 dL_law_456 rfl ?_
  refine JL_iload_n (pc := 457) 3 dL_law_457 rfl ?_
  refine JL_iconst (pc := 458) (1 : Int32) dL_law_458 (by decide) ?_
  refine JL_iadd (pc := 459) dL_law_459 ?_
  refine JL_xald (pc := 460) dL_law_460 h (fun x110 h => ?_)
  refine JL_aload_n (pc := 461) 0 dL_law_461 rfl ?_
  refine JL_iload_n (pc := 462) 3 dL_law_462 rfl ?_
  refine JL_iconst (pc := 463) (2 : Int32) dL_law_463 (by decide) ?_
  refine JL_iadd (pc := 464) dL_law_464 ?_
  refine JL_xald (pc := 465) dL_law_465 h (fun x111 h => ?_)
  refine JL_aload_n (pc := 466) 0 dL_law_466 rfl ?_
  refine JL_iload_n (pc := 467) 3 dL_law_467 rfl ?_
  refine JL_iconst (pc := 468) (3 : Int32) dL_law_468 (by decide) ?_
  refine JL_iadd (pc := 469) dL_law_469 ?_
  refine JL_xald (pc := 470) dL_law_470 h (fun x112 h => ?_)
  refine JL_aload_n (pc := 471) 0 dL_law_471 rfl ?_
  refine JL_iload_n (pc := 472) 3 dL_law_472 rfl ?_
  refine JL_iconst (pc := 473) (4 : Int32) dL_law_473 (by decide) ?_
  refine JL_iadd (pc := 474) dL_law_474 ?_
  refine JL_xald (pc := 475) dL_law_475 h (fun x113 h => ?_)
  refine JL_aload_n (pc := 476) 0 dL_law_476 rfl ?_
  refine JL_iload_n (pc := 477) 3 dL_law_477 rfl ?_
  refine JL_iconst (pc := 478) (5 : Int32) dL_law_478 (by decide) ?_
  refine JL_iadd (pc := 479) dL_law_479 ?_
  refine JL_xald (pc := 480) dL_law_480 h (fun x114 h => ?_)
  obtain ⟨x117, σ115, hc116, h⟩ := cI_t h
  refine JL_cVi (pc := 481) (ctX11_pour l E 0 x110 x111 x112 x113 x114 rfl σ hc116) dL_law_481 mlL_44 mvX11_pour rfl rfl (by decide) rfl (Nat.le_of_ble_eq_true rfl) ?_
  refine JL_aload_n (pc := 484) 2 dL_law_484 rfl ?_
  refine JL_aload_n (pc := 485) 0 dL_law_485 rfl ?_
  refine JL_iload_n (pc := 486) 3 dL_law_486 rfl ?_
  refine JL_iconst (pc := 487) (1 : Int32) dL_law_487 (by decide) ?_
  refine JL_iadd (pc := 488) dL_law_488 ?_
  refine JL_xald (pc := 489) dL_law_489 h (fun x118 h => ?_)
  refine JL_aload_n (pc := 490) 0 dL_law_490 rfl ?_
  refine JL_iload_n (pc := 491) 3 dL_law_491 rfl ?_
  refine JL_iconst (pc := 492) (2 : Int32) dL_law_492 (by decide) ?_
  refine JL_iadd (pc := 493) dL_law_493 ?_
  refine JL_xald (pc := 494) dL_law_494 h (fun x119 h => ?_)
  refine JL_aload_n (pc := 495) 0 dL_law_495 rfl ?_
  refine JL_iload_n (pc := 496) 3 dL_law_496 rfl ?_
  refine JL_iconst (pc := 497) (3 : Int32) dL_law_497 (by decide) ?_
  refine JL_iadd (pc := 498) dL_law_498 ?_
  refine JL_xald (pc := 499) dL_law_499 h (fun x120 h => ?_)
  refine JL_aload_n (pc := 500) 0 dL_law_500 rfl ?_
  refine JL_iload_n (pc := 501) 3 dL_law_501 rfl ?_
  refine JL_iconst (pc := 502) (4 : Int32) dL_law_502 (by decide) ?_
  refine JL_iadd (pc := 503) dL_law_503 ?_
  refine JL_xald (pc := 504) dL_law_504 h (fun x121 h => ?_)
  refine JL_aload_n (pc := 505) 0 dL_law_505 rfl ?_
  refine JL_iload_n (pc := 506) 3 dL_law_506 rfl ?_
  refine JL_iconst (pc := 507) (5 : Int32) dL_law_507 (by decide) ?_
  refine JL_iadd (pc := 508) dL_law_508 ?_
  refine JL_xald (pc := 509) dL_law_509 h (fun x122 h => ?_)
  obtain ⟨x125, σ123, hc124, h⟩ := cI_t h
  refine JL_cVi (pc := 510) (ctX12_pour l E 31 x118 x119 x120 x121 x122 rfl σ115 hc124) dL_law_510 mlL_48 mvX12_pour rfl rfl (by decide) rfl (Nat.le_of_ble_eq_true rfl) ?_
  refine JL_icmp_eq (pc := 513) 1802 dL_law_513 (by decide) h (fun h => ?_) (fun h => ?_)
  · refine JL_iinc (pc := 1802) (L' := [(3, .int (v3 + (6 : Int32))), (0, .ref b), (1, .ref (e_a E 0 0)), (2, .ref (e_a E 31 0))]) 3 (v3 + (6 : Int32)) dL_law_1802 rfl (by rfl) (by decide) rfl ?_
    refine JL_goto (pc := 1805) 18 dL_law_1805 (by decide) ?_
    refine JL_sub (L' := [(0, .ref b), (1, .ref (e_a E 0 0)), (2, .ref (e_a E 31 0)), (3, .int (v3 + (6 : Int32)))]) [1, 2, 3, 0] rfl ?_
    exact hk18 (v3 + (6 : Int32)) σ123 h
  · refine JL_iconst (pc := 516) (0 : Int32) dL_law_516 (by decide) ?_
    cases h
def fL_law_518 (Ln : Nat) (xs : Nat → Int32) (k18 : Int32 → Mm → Option Mm) (v3 : Int32) (σ : Mm) : Option Mm := g_xs Ln xs (v3 + (1 : Int32)) (fun x126 => g_xs Ln xs (v3 + (2 : Int32)) (fun x127 => g_xs Ln xs (v3 + (3 : Int32)) (fun x128 => g_xs Ln xs (v3 + (4 : Int32)) (fun x129 => g_xs Ln xs (v3 + (5 : Int32)) (fun x130 => c_I (fX11_feed 0 x126 x127 x128 x129 x130 σ) (fun x133 σ131 => g_xs Ln xs (v3 + (1 : Int32)) (fun x134 => g_xs Ln xs (v3 + (2 : Int32)) (fun x135 => g_xs Ln xs (v3 + (3 : Int32)) (fun x136 => g_xs Ln xs (v3 + (4 : Int32)) (fun x137 => g_xs Ln xs (v3 + (5 : Int32)) (fun x138 => c_I (fX12_feed 31 x134 x135 x136 x137 x138 σ131) (fun x141 σ139 => if x133 = x141 then (k18 (v3 + (6 : Int32)) σ139) else (none)))))))))))))
set_option maxRecDepth 100000 in
set_option maxHeartbeats 4000000 in
theorem tL_law_518 (l : Launch) (E : EV) (b : Nat) {τ : Mm} (Ln : Nat) (xs : Nat → Int32) (k18 : Int32 → Mm → Option Mm) (hk18 : ∀ (v3 : Int32) (σ : Mm), k18 v3 σ = some τ → JL l E b Ln xs σ 18 [(0, .ref b), (1, .ref (e_a E 0 0)), (2, .ref (e_a E 31 0)), (3, .int v3)] []) (v3 : Int32) (σ : Mm) (h : fL_law_518 Ln xs k18 v3 σ = some τ) : JL l E b Ln xs σ 518 [(0, .ref b), (1, .ref (e_a E 0 0)), (2, .ref (e_a E 31 0)), (3, .int v3)] [] := by
  unfold fL_law_518 at h
  refine JL_aload_n (pc := 518) 1 dL_law_518 rfl ?_
  refine JL_aload_n (pc := 519) 0 dL_law_519 rfl ?_
  refine JL_iload_n (pc := 520) 3 dL_law_520 rfl ?_
  refine JL_iconst (pc := 521) (1 : Int32) dL_law_521 (by decide) ?_
  refine JL_iadd (pc := 522) dL_law_522 ?_
  refine JL_xald (pc := 523) dL_law_523 h (fun x126 h => ?_)
  refine JL_aload_n (pc := 524) 0 dL_law_524 rfl ?_
  refine JL_iload_n (pc := 525) 3 dL_law_525 rfl ?_
  refine JL_iconst (pc := 526) (2 : Int32) dL_law_526 (by decide) ?_
  refine JL_iadd (pc := 527) dL_law_527 ?_
  refine JL_xald (pc := 528) dL_law_528 h (fun x127 h => ?_)
  refine JL_aload_n (pc := 529) 0 dL_law_529 rfl ?_
  refine JL_iload_n (pc := 530) 3 dL_law_530 rfl ?_
  refine JL_iconst (pc := 531) (3 : Int32) dL_law_531 (by decide) ?_
  refine JL_iadd (pc := 532) dL_law_532 ?_
  refine JL_xald (pc := 533) dL_law_533 h (fun x128 h => ?_)
  refine JL_aload_n (pc := 534) 0 dL_law_534 rfl ?_
  refine JL_iload_n (pc := 535) 3 dL_law_535 rfl ?_
  refine JL_iconst (pc := 536) (4 : Int32) dL_law_536 (by decide) ?_
  refine JL_iadd (pc := 537) dL_law_537 ?_
  refine JL_xald (pc := 538) dL_law_538 h (fun x129 h => ?_)
  refine JL_aload_n (pc := 539) 0 dL_law_539 rfl ?_
  refine JL_iload_n (pc := 540) 3 dL_law_540 rfl ?_
  refine JL_iconst (pc := 541) (5 : Int32) dL_law_541 (by decide) ?_
  refine JL_iadd (pc := 542) dL_law_542 ?_
  refine JL_xald (pc := 543) dL_law_543 h (fun x130 h => ?_)
  obtain ⟨x133, σ131, hc132, h⟩ := cI_t h
  refine JL_cVi (pc := 544) (ctX11_feed l E 0 x126 x127 x128 x129 x130 rfl σ hc132) dL_law_544 mlL_49 mvX11_feed rfl rfl (by decide) rfl (Nat.le_of_ble_eq_true rfl) ?_
  refine JL_aload_n (pc := 547) 2 dL_law_547 rfl ?_
  refine JL_aload_n (pc := 548) 0 dL_law_548 rfl ?_
  refine JL_iload_n (pc := 549) 3 dL_law_549 rfl ?_
  refine JL_iconst (pc := 550) (1 : Int32) dL_law_550 (by decide) ?_
  refine JL_iadd (pc := 551) dL_law_551 ?_
  refine JL_xald (pc := 552) dL_law_552 h (fun x134 h => ?_)
  refine JL_aload_n (pc := 553) 0 dL_law_553 rfl ?_
  refine JL_iload_n (pc := 554) 3 dL_law_554 rfl ?_
  refine JL_iconst (pc := 555) (2 : Int32) dL_law_555 (by decide) ?_
  refine JL_iadd (pc := 556) dL_law_556 ?_
  refine JL_xald (pc := 557) dL_law_557 h (fun x135 h => ?_)
  refine JL_aload_n (pc := 558) 0 dL_law_558 rfl ?_
  refine JL_iload_n (pc := 559) 3 dL_law_559 rfl ?_
  refine JL_iconst (pc := 560) (3 : Int32) dL_law_560 (by decide) ?_
  refine JL_iadd (pc := 561) dL_law_561 ?_
  refine JL_xald (pc := 562) dL_law_562 h (fun x136 h => ?_)
  refine JL_aload_n (pc := 563) 0 dL_law_563 rfl ?_
  refine JL_iload_n (pc := 564) 3 dL_law_564 rfl ?_
  refine JL_iconst (pc := 565) (4 : Int32) dL_law_565 (by decide) ?_
  refine JL_iadd (pc := 566) dL_law_566 ?_
  refine JL_xald (pc := 567) dL_law_567 h (fun x137 h => ?_)
  refine JL_aload_n (pc := 568) 0 dL_law_568 rfl ?_
  refine JL_iload_n (pc := 569) 3 dL_law_569 rfl ?_
  refine JL_iconst (pc := 570) (5 : Int32) dL_law_570 (by decide) ?_
  refine JL_iadd (pc := 571) dL_law_571 ?_
  refine JL_xald (pc := 572) dL_law_572 h (fun x138 h => ?_)
  obtain ⟨x141, σ139, hc140, h⟩ := cI_t h
  refine JL_cVi (pc := 573) (ctX12_feed l E 31 x134 x135 x136 x137 x138 rfl σ131 hc140) dL_law_573 mlL_53 mvX12_feed rfl rfl (by decide) rfl (Nat.le_of_ble_eq_true rfl) ?_
  refine JL_icmp_eq (pc := 576) 1802 dL_law_576 (by decide) h (fun h => ?_) (fun h => ?_)
  · refine JL_iinc (pc := 1802) (L' := [(3, .int (v3 + (6 : Int32))), (0, .ref b), (1, .ref (e_a E 0 0)), (2, .ref (e_a E 31 0))]) 3 (v3 + (6 : Int32)) dL_law_1802 rfl (by rfl) (by decide) rfl ?_
    refine JL_goto (pc := 1805) 18 dL_law_1805 (by decide) ?_
    refine JL_sub (L' := [(0, .ref b), (1, .ref (e_a E 0 0)), (2, .ref (e_a E 31 0)), (3, .int (v3 + (6 : Int32)))]) [1, 2, 3, 0] rfl ?_
    exact hk18 (v3 + (6 : Int32)) σ139 h
  · refine JL_iconst (pc := 579) (0 : Int32) dL_law_579 (by decide) ?_
    cases h
def fL_law_581 (Ln : Nat) (xs : Nat → Int32) (k18 : Int32 → Mm → Option Mm) (v3 : Int32) (σ : Mm) : Option Mm := g_xs Ln xs (v3 + (1 : Int32)) (fun x142 => c_I (fX11_village 0 x142 σ) (fun x145 σ143 => g_xs Ln xs (v3 + (1 : Int32)) (fun x146 => c_I (fX12_village 31 x146 σ143) (fun x149 σ147 => if x145 = x149 then (k18 (v3 + (6 : Int32)) σ147) else (none)))))
set_option maxRecDepth 100000 in
set_option maxHeartbeats 4000000 in
theorem tL_law_581 (l : Launch) (E : EV) (b : Nat) {τ : Mm} (Ln : Nat) (xs : Nat → Int32) (k18 : Int32 → Mm → Option Mm) (hk18 : ∀ (v3 : Int32) (σ : Mm), k18 v3 σ = some τ → JL l E b Ln xs σ 18 [(0, .ref b), (1, .ref (e_a E 0 0)), (2, .ref (e_a E 31 0)), (3, .int v3)] []) (v3 : Int32) (σ : Mm) (h : fL_law_581 Ln xs k18 v3 σ = some τ) : JL l E b Ln xs σ 581 [(0, .ref b), (1, .ref (e_a E 0 0)), (2, .ref (e_a E 31 0)), (3, .int v3)] [] := by
  unfold fL_law_581 at h
  refine JL_aload_n (pc := 581) 1 dL_law_581 rfl ?_
  refine JL_aload_n (pc := 582) 0 dL_law_582 rfl ?_
  refine JL_iload_n (pc := 583) 3 dL_law_583 rfl ?_
  refine JL_iconst (pc := 584) (1 : Int32) dL_law_584 (by decide) ?_
  refine JL_iadd (pc := 585) dL_law_585 ?_
  refine JL_xald (pc := 586) dL_law_586 h (fun x142 h => ?_)
  obtain ⟨x145, σ143, hc144, h⟩ := cI_t h
  refine JL_cVi (pc := 587) (ctX11_village l E 0 x142 rfl σ hc144) dL_law_587 mlL_54 mvX11_village rfl rfl (by decide) rfl (Nat.le_of_ble_eq_true rfl) ?_
  refine JL_aload_n (pc := 590) 2 dL_law_590 rfl ?_
  refine JL_aload_n (pc := 591) 0 dL_law_591 rfl ?_
  refine JL_iload_n (pc := 592) 3 dL_law_592 rfl ?_
  refine JL_iconst (pc := 593) (1 : Int32) dL_law_593 (by decide) ?_
  refine JL_iadd (pc := 594) dL_law_594 ?_
  refine JL_xald (pc := 595) dL_law_595 h (fun x146 h => ?_)
  obtain ⟨x149, σ147, hc148, h⟩ := cI_t h
  refine JL_cVi (pc := 596) (ctX12_village l E 31 x146 rfl σ143 hc148) dL_law_596 mlL_58 mvX12_village rfl rfl (by decide) rfl (Nat.le_of_ble_eq_true rfl) ?_
  refine JL_icmp_eq (pc := 599) 1802 dL_law_599 (by decide) h (fun h => ?_) (fun h => ?_)
  · refine JL_iinc (pc := 1802) (L' := [(3, .int (v3 + (6 : Int32))), (0, .ref b), (1, .ref (e_a E 0 0)), (2, .ref (e_a E 31 0))]) 3 (v3 + (6 : Int32)) dL_law_1802 rfl (by rfl) (by decide) rfl ?_
    refine JL_goto (pc := 1805) 18 dL_law_1805 (by decide) ?_
    refine JL_sub (L' := [(0, .ref b), (1, .ref (e_a E 0 0)), (2, .ref (e_a E 31 0)), (3, .int (v3 + (6 : Int32)))]) [1, 2, 3, 0] rfl ?_
    exact hk18 (v3 + (6 : Int32)) σ147 h
  · refine JL_iconst (pc := 602) (0 : Int32) dL_law_602 (by decide) ?_
    cases h
def fL_law_604 (Ln : Nat) (xs : Nat → Int32) (k18 : Int32 → Mm → Option Mm) (v3 : Int32) (σ : Mm) : Option Mm := g_xs Ln xs (v3 + (1 : Int32)) (fun x150 => c_I (fX11_orders 0 x150 σ) (fun x153 σ151 => g_xs Ln xs (v3 + (1 : Int32)) (fun x154 => c_I (fX12_orders 31 x154 σ151) (fun x157 σ155 => if x153 = x157 then (k18 (v3 + (6 : Int32)) σ155) else (none)))))
set_option maxRecDepth 100000 in
set_option maxHeartbeats 4000000 in
theorem tL_law_604 (l : Launch) (E : EV) (b : Nat) {τ : Mm} (Ln : Nat) (xs : Nat → Int32) (k18 : Int32 → Mm → Option Mm) (hk18 : ∀ (v3 : Int32) (σ : Mm), k18 v3 σ = some τ → JL l E b Ln xs σ 18 [(0, .ref b), (1, .ref (e_a E 0 0)), (2, .ref (e_a E 31 0)), (3, .int v3)] []) (v3 : Int32) (σ : Mm) (h : fL_law_604 Ln xs k18 v3 σ = some τ) : JL l E b Ln xs σ 604 [(0, .ref b), (1, .ref (e_a E 0 0)), (2, .ref (e_a E 31 0)), (3, .int v3)] [] := by
  unfold fL_law_604 at h
  refine JL_aload_n (pc := 604) 1 dL_law_604 rfl ?_
  refine JL_aload_n (pc := 605) 0 dL_law_605 rfl ?_
  refine JL_iload_n (pc := 606) 3 dL_law_606 rfl ?_
  refine JL_iconst (pc := 607) (1 : Int32) dL_law_607 (by decide) ?_
  refine JL_iadd (pc := 608) dL_law_608 ?_
  refine JL_xald (pc := 609) dL_law_609 h (fun x150 h => ?_)
  obtain ⟨x153, σ151, hc152, h⟩ := cI_t h
  refine JL_cVi (pc := 610) (ctX11_orders l E 0 x150 rfl σ hc152) dL_law_610 mlL_59 mvX11_orders rfl rfl (by decide) rfl (Nat.le_of_ble_eq_true rfl) ?_
  refine JL_aload_n (pc := 613) 2 dL_law_613 rfl ?_
  refine JL_aload_n (pc := 614) 0 dL_law_614 rfl ?_
  refine JL_iload_n (pc := 615) 3 dL_law_615 rfl ?_
  refine JL_iconst (pc := 616) (1 : Int32) dL_law_616 (by decide) ?_
  refine JL_iadd (pc := 617) dL_law_617 ?_
  refine JL_xald (pc := 618) dL_law_618 h (fun x154 h => ?_)
  obtain ⟨x157, σ155, hc156, h⟩ := cI_t h
  refine JL_cVi (pc := 619) (ctX12_orders l E 31 x154 rfl σ151 hc156) dL_law_619 mlL_62 mvX12_orders rfl rfl (by decide) rfl (Nat.le_of_ble_eq_true rfl) ?_
  refine JL_icmp_eq (pc := 622) 1802 dL_law_622 (by decide) h (fun h => ?_) (fun h => ?_)
  · refine JL_iinc (pc := 1802) (L' := [(3, .int (v3 + (6 : Int32))), (0, .ref b), (1, .ref (e_a E 0 0)), (2, .ref (e_a E 31 0))]) 3 (v3 + (6 : Int32)) dL_law_1802 rfl (by rfl) (by decide) rfl ?_
    refine JL_goto (pc := 1805) 18 dL_law_1805 (by decide) ?_
    refine JL_sub (L' := [(0, .ref b), (1, .ref (e_a E 0 0)), (2, .ref (e_a E 31 0)), (3, .int (v3 + (6 : Int32)))]) [1, 2, 3, 0] rfl ?_
    exact hk18 (v3 + (6 : Int32)) σ155 h
  · refine JL_iconst (pc := 625) (0 : Int32) dL_law_625 (by decide) ?_
    cases h
def fL_law_627 (Ln : Nat) (xs : Nat → Int32) (k18 : Int32 → Mm → Option Mm) (v3 : Int32) (σ : Mm) : Option Mm := g_xs Ln xs (v3 + (1 : Int32)) (fun x158 => c_I (fX11_fault 0 x158 σ) (fun x161 σ159 => g_xs Ln xs (v3 + (1 : Int32)) (fun x162 => c_I (fX12_fault 31 x162 σ159) (fun x165 σ163 => if x161 = x165 then (k18 (v3 + (6 : Int32)) σ163) else (none)))))
set_option maxRecDepth 100000 in
set_option maxHeartbeats 4000000 in
theorem tL_law_627 (l : Launch) (E : EV) (b : Nat) {τ : Mm} (Ln : Nat) (xs : Nat → Int32) (k18 : Int32 → Mm → Option Mm) (hk18 : ∀ (v3 : Int32) (σ : Mm), k18 v3 σ = some τ → JL l E b Ln xs σ 18 [(0, .ref b), (1, .ref (e_a E 0 0)), (2, .ref (e_a E 31 0)), (3, .int v3)] []) (v3 : Int32) (σ : Mm) (h : fL_law_627 Ln xs k18 v3 σ = some τ) : JL l E b Ln xs σ 627 [(0, .ref b), (1, .ref (e_a E 0 0)), (2, .ref (e_a E 31 0)), (3, .int v3)] [] := by
  unfold fL_law_627 at h
  refine JL_aload_n (pc := 627) 1 dL_law_627 rfl ?_
  refine JL_aload_n (pc := 628) 0 dL_law_628 rfl ?_
  refine JL_iload_n (pc := 629) 3 dL_law_629 rfl ?_
  refine JL_iconst (pc := 630) (1 : Int32) dL_law_630 (by decide) ?_
  refine JL_iadd (pc := 631) dL_law_631 ?_
  refine JL_xald (pc := 632) dL_law_632 h (fun x158 h => ?_)
  obtain ⟨x161, σ159, hc160, h⟩ := cI_t h
  refine JL_cVi (pc := 633) (ctX11_fault l E 0 x158 rfl σ hc160) dL_law_633 mlL_63 mvX11_fault rfl rfl (by decide) rfl (Nat.le_of_ble_eq_true rfl) ?_
  refine JL_aload_n (pc := 636) 2 dL_law_636 rfl ?_
  refine JL_aload_n (pc := 637) 0 dL_law_637 rfl ?_
  refine JL_iload_n (pc := 638) 3 dL_law_638 rfl ?_
  refine JL_iconst (pc := 639) (1 : Int32) dL_law_639 (by decide) ?_
  refine JL_iadd (pc := 640) dL_law_640 ?_
  refine JL_xald (pc := 641) dL_law_641 h (fun x162 h => ?_)
  obtain ⟨x165, σ163, hc164, h⟩ := cI_t h
  refine JL_cVi (pc := 642) (ctX12_fault l E 31 x162 rfl σ159 hc164) dL_law_642 mlL_66 mvX12_fault rfl rfl (by decide) rfl (Nat.le_of_ble_eq_true rfl) ?_
  refine JL_icmp_eq (pc := 645) 1802 dL_law_645 (by decide) h (fun h => ?_) (fun h => ?_)
  · refine JL_iinc (pc := 1802) (L' := [(3, .int (v3 + (6 : Int32))), (0, .ref b), (1, .ref (e_a E 0 0)), (2, .ref (e_a E 31 0))]) 3 (v3 + (6 : Int32)) dL_law_1802 rfl (by rfl) (by decide) rfl ?_
    refine JL_goto (pc := 1805) 18 dL_law_1805 (by decide) ?_
    refine JL_sub (L' := [(0, .ref b), (1, .ref (e_a E 0 0)), (2, .ref (e_a E 31 0)), (3, .int (v3 + (6 : Int32)))]) [1, 2, 3, 0] rfl ?_
    exact hk18 (v3 + (6 : Int32)) σ163 h
  · refine JL_iconst (pc := 648) (0 : Int32) dL_law_648 (by decide) ?_
    cases h
def fL_law_650 (Ln : Nat) (xs : Nat → Int32) (k18 : Int32 → Mm → Option Mm) (v3 : Int32) (σ : Mm) : Option Mm := g_xs Ln xs (v3 + (1 : Int32)) (fun x166 => c_I (fX11_told 0 x166 σ) (fun x169 σ167 => g_xs Ln xs (v3 + (1 : Int32)) (fun x170 => c_I (fX12_told 31 x170 σ167) (fun x173 σ171 => if x169 = x173 then (k18 (v3 + (6 : Int32)) σ171) else (none)))))
set_option maxRecDepth 100000 in
set_option maxHeartbeats 4000000 in
theorem tL_law_650 (l : Launch) (E : EV) (b : Nat) {τ : Mm} (Ln : Nat) (xs : Nat → Int32) (k18 : Int32 → Mm → Option Mm) (hk18 : ∀ (v3 : Int32) (σ : Mm), k18 v3 σ = some τ → JL l E b Ln xs σ 18 [(0, .ref b), (1, .ref (e_a E 0 0)), (2, .ref (e_a E 31 0)), (3, .int v3)] []) (v3 : Int32) (σ : Mm) (h : fL_law_650 Ln xs k18 v3 σ = some τ) : JL l E b Ln xs σ 650 [(0, .ref b), (1, .ref (e_a E 0 0)), (2, .ref (e_a E 31 0)), (3, .int v3)] [] := by
  unfold fL_law_650 at h
  refine JL_aload_n (pc := 650) 1 dL_law_650 rfl ?_
  refine JL_aload_n (pc := 651) 0 dL_law_651 rfl ?_
  refine JL_iload_n (pc := 652) 3 dL_law_652 rfl ?_
  refine JL_iconst (pc := 653) (1 : Int32) dL_law_653 (by decide) ?_
  refine JL_iadd (pc := 654) dL_law_654 ?_
  refine JL_xald (pc := 655) dL_law_655 h (fun x166 h => ?_)
  obtain ⟨x169, σ167, hc168, h⟩ := cI_t h
  refine JL_cVi (pc := 656) (ctX11_told l E 0 x166 rfl σ hc168) dL_law_656 mlL_67 mvX11_told rfl rfl (by decide) rfl (Nat.le_of_ble_eq_true rfl) ?_
  refine JL_aload_n (pc := 659) 2 dL_law_659 rfl ?_
  refine JL_aload_n (pc := 660) 0 dL_law_660 rfl ?_
  refine JL_iload_n (pc := 661) 3 dL_law_661 rfl ?_
  refine JL_iconst (pc := 662) (1 : Int32) dL_law_662 (by decide) ?_
  refine JL_iadd (pc := 663) dL_law_663 ?_
  refine JL_xald (pc := 664) dL_law_664 h (fun x170 h => ?_)
  obtain ⟨x173, σ171, hc172, h⟩ := cI_t h
  refine JL_cVi (pc := 665) (ctX12_told l E 31 x170 rfl σ167 hc172) dL_law_665 mlL_70 mvX12_told rfl rfl (by decide) rfl (Nat.le_of_ble_eq_true rfl) ?_
  refine JL_icmp_eq (pc := 668) 1802 dL_law_668 (by decide) h (fun h => ?_) (fun h => ?_)
  · refine JL_iinc (pc := 1802) (L' := [(3, .int (v3 + (6 : Int32))), (0, .ref b), (1, .ref (e_a E 0 0)), (2, .ref (e_a E 31 0))]) 3 (v3 + (6 : Int32)) dL_law_1802 rfl (by rfl) (by decide) rfl ?_
    refine JL_goto (pc := 1805) 18 dL_law_1805 (by decide) ?_
    refine JL_sub (L' := [(0, .ref b), (1, .ref (e_a E 0 0)), (2, .ref (e_a E 31 0)), (3, .int (v3 + (6 : Int32)))]) [1, 2, 3, 0] rfl ?_
    exact hk18 (v3 + (6 : Int32)) σ171 h
  · refine JL_iconst (pc := 671) (0 : Int32) dL_law_671 (by decide) ?_
    cases h
def fL_law_673 (Ln : Nat) (xs : Nat → Int32) (k18 : Int32 → Mm → Option Mm) (v3 : Int32) (σ : Mm) : Option Mm := g_xs Ln xs (v3 + (1 : Int32)) (fun x174 => g_xs Ln xs (v3 + (2 : Int32)) (fun x175 => c_I (fX11_vane 0 x174 x175 σ) (fun x178 σ176 => g_xs Ln xs (v3 + (1 : Int32)) (fun x179 => g_xs Ln xs (v3 + (2 : Int32)) (fun x180 => c_I (fX12_vane 31 x179 x180 σ176) (fun x183 σ181 => if x178 = x183 then (k18 (v3 + (6 : Int32)) σ181) else (none)))))))
set_option maxRecDepth 100000 in
set_option maxHeartbeats 4000000 in
theorem tL_law_673 (l : Launch) (E : EV) (b : Nat) {τ : Mm} (Ln : Nat) (xs : Nat → Int32) (k18 : Int32 → Mm → Option Mm) (hk18 : ∀ (v3 : Int32) (σ : Mm), k18 v3 σ = some τ → JL l E b Ln xs σ 18 [(0, .ref b), (1, .ref (e_a E 0 0)), (2, .ref (e_a E 31 0)), (3, .int v3)] []) (v3 : Int32) (σ : Mm) (h : fL_law_673 Ln xs k18 v3 σ = some τ) : JL l E b Ln xs σ 673 [(0, .ref b), (1, .ref (e_a E 0 0)), (2, .ref (e_a E 31 0)), (3, .int v3)] [] := by
  unfold fL_law_673 at h
  refine JL_aload_n (pc := 673) 1 dL_law_673 rfl ?_
  refine JL_aload_n (pc := 674) 0 dL_law_674 rfl ?_
  refine JL_iload_n (pc := 675) 3 dL_law_675 rfl ?_
  refine JL_iconst (pc := 676) (1 : Int32) dL_law_676 (by decide) ?_
  refine JL_iadd (pc := 677) dL_law_677 ?_
  refine JL_xald (pc := 678) dL_law_678 h (fun x174 h => ?_)
  refine JL_aload_n (pc := 679) 0 dL_law_679 rfl ?_
  refine JL_iload_n (pc := 680) 3 dL_law_680 rfl ?_
  refine JL_iconst (pc := 681) (2 : Int32) dL_law_681 (by decide) ?_
  refine JL_iadd (pc := 682) dL_law_682 ?_
  refine JL_xald (pc := 683) dL_law_683 h (fun x175 h => ?_)
  obtain ⟨x178, σ176, hc177, h⟩ := cI_t h
  refine JL_cVi (pc := 684) (ctX11_vane l E 0 x174 x175 rfl σ hc177) dL_law_684 mlL_71 mvX11_vane rfl rfl (by decide) rfl (Nat.le_of_ble_eq_true rfl) ?_
  refine JL_aload_n (pc := 687) 2 dL_law_687 rfl ?_
  refine JL_aload_n (pc := 688) 0 dL_law_688 rfl ?_
  refine JL_iload_n (pc := 689) 3 dL_law_689 rfl ?_
  refine JL_iconst (pc := 690) (1 : Int32) dL_law_690 (by decide) ?_
  refine JL_iadd (pc := 691) dL_law_691 ?_
  refine JL_xald (pc := 692) dL_law_692 h (fun x179 h => ?_)
  refine JL_aload_n (pc := 693) 0 dL_law_693 rfl ?_
  refine JL_iload_n (pc := 694) 3 dL_law_694 rfl ?_
  refine JL_iconst (pc := 695) (2 : Int32) dL_law_695 (by decide) ?_
  refine JL_iadd (pc := 696) dL_law_696 ?_
  refine JL_xald (pc := 697) dL_law_697 h (fun x180 h => ?_)
  obtain ⟨x183, σ181, hc182, h⟩ := cI_t h
  refine JL_cVi (pc := 698) (ctX12_vane l E 31 x179 x180 rfl σ176 hc182) dL_law_698 mlL_75 mvX12_vane rfl rfl (by decide) rfl (Nat.le_of_ble_eq_true rfl) ?_
  refine JL_icmp_eq (pc := 701) 1802 dL_law_701 (by decide) h (fun h => ?_) (fun h => ?_)
  · refine JL_iinc (pc := 1802) (L' := [(3, .int (v3 + (6 : Int32))), (0, .ref b), (1, .ref (e_a E 0 0)), (2, .ref (e_a E 31 0))]) 3 (v3 + (6 : Int32)) dL_law_1802 rfl (by rfl) (by decide) rfl ?_
    refine JL_goto (pc := 1805) 18 dL_law_1805 (by decide) ?_
    refine JL_sub (L' := [(0, .ref b), (1, .ref (e_a E 0 0)), (2, .ref (e_a E 31 0)), (3, .int (v3 + (6 : Int32)))]) [1, 2, 3, 0] rfl ?_
    exact hk18 (v3 + (6 : Int32)) σ181 h
  · refine JL_iconst (pc := 704) (0 : Int32) dL_law_704 (by decide) ?_
    cases h
def fL_law_706 (Ln : Nat) (xs : Nat → Int32) (k18 : Int32 → Mm → Option Mm) (v3 : Int32) (σ : Mm) : Option Mm := g_xs Ln xs (v3 + (1 : Int32)) (fun x184 => g_xs Ln xs (v3 + (2 : Int32)) (fun x185 => c_I (fX11_shaft 0 x184 x185 σ) (fun x188 σ186 => g_xs Ln xs (v3 + (1 : Int32)) (fun x189 => g_xs Ln xs (v3 + (2 : Int32)) (fun x190 => c_I (fX12_shaft 31 x189 x190 σ186) (fun x193 σ191 => if x188 = x193 then (k18 (v3 + (6 : Int32)) σ191) else (none)))))))
set_option maxRecDepth 100000 in
set_option maxHeartbeats 4000000 in
theorem tL_law_706 (l : Launch) (E : EV) (b : Nat) {τ : Mm} (Ln : Nat) (xs : Nat → Int32) (k18 : Int32 → Mm → Option Mm) (hk18 : ∀ (v3 : Int32) (σ : Mm), k18 v3 σ = some τ → JL l E b Ln xs σ 18 [(0, .ref b), (1, .ref (e_a E 0 0)), (2, .ref (e_a E 31 0)), (3, .int v3)] []) (v3 : Int32) (σ : Mm) (h : fL_law_706 Ln xs k18 v3 σ = some τ) : JL l E b Ln xs σ 706 [(0, .ref b), (1, .ref (e_a E 0 0)), (2, .ref (e_a E 31 0)), (3, .int v3)] [] := by
  unfold fL_law_706 at h
  refine JL_aload_n (pc := 706) 1 dL_law_706 rfl ?_
  refine JL_aload_n (pc := 707) 0 dL_law_707 rfl ?_
  refine JL_iload_n (pc := 708) 3 dL_law_708 rfl ?_
  refine JL_iconst (pc := 709) (1 : Int32) dL_law_709 (by decide) ?_
  refine JL_iadd (pc := 710) dL_law_710 ?_
  refine JL_xald (pc := 711) dL_law_711 h (fun x184 h => ?_)
  refine JL_aload_n (pc := 712) 0 dL_law_712 rfl ?_
  refine JL_iload_n (pc := 713) 3 dL_law_713 rfl ?_
  refine JL_iconst (pc := 714) (2 : Int32) dL_law_714 (by decide) ?_
  refine JL_iadd (pc := 715) dL_law_715 ?_
  refine JL_xald (pc := 716) dL_law_716 h (fun x185 h => ?_)
  obtain ⟨x188, σ186, hc187, h⟩ := cI_t h
  refine JL_cVi (pc := 717) (ctX11_shaft l E 0 x184 x185 rfl σ hc187) dL_law_717 mlL_76 mvX11_shaft rfl rfl (by decide) rfl (Nat.le_of_ble_eq_true rfl) ?_
  refine JL_aload_n (pc := 720) 2 dL_law_720 rfl ?_
  refine JL_aload_n (pc := 721) 0 dL_law_721 rfl ?_
  refine JL_iload_n (pc := 722) 3 dL_law_722 rfl ?_
  refine JL_iconst (pc := 723) (1 : Int32) dL_law_723 (by decide) ?_
  refine JL_iadd (pc := 724) dL_law_724 ?_
  refine JL_xald (pc := 725) dL_law_725 h (fun x189 h => ?_)
  refine JL_aload_n (pc := 726) 0 dL_law_726 rfl ?_
  refine JL_iload_n (pc := 727) 3 dL_law_727 rfl ?_
  refine JL_iconst (pc := 728) (2 : Int32) dL_law_728 (by decide) ?_
  refine JL_iadd (pc := 729) dL_law_729 ?_
  refine JL_xald (pc := 730) dL_law_730 h (fun x190 h => ?_)
  obtain ⟨x193, σ191, hc192, h⟩ := cI_t h
  refine JL_cVi (pc := 731) (ctX12_shaft l E 31 x189 x190 rfl σ186 hc192) dL_law_731 mlL_79 mvX12_shaft rfl rfl (by decide) rfl (Nat.le_of_ble_eq_true rfl) ?_
  refine JL_icmp_eq (pc := 734) 1802 dL_law_734 (by decide) h (fun h => ?_) (fun h => ?_)
  · refine JL_iinc (pc := 1802) (L' := [(3, .int (v3 + (6 : Int32))), (0, .ref b), (1, .ref (e_a E 0 0)), (2, .ref (e_a E 31 0))]) 3 (v3 + (6 : Int32)) dL_law_1802 rfl (by rfl) (by decide) rfl ?_
    refine JL_goto (pc := 1805) 18 dL_law_1805 (by decide) ?_
    refine JL_sub (L' := [(0, .ref b), (1, .ref (e_a E 0 0)), (2, .ref (e_a E 31 0)), (3, .int (v3 + (6 : Int32)))]) [1, 2, 3, 0] rfl ?_
    exact hk18 (v3 + (6 : Int32)) σ191 h
  · refine JL_iconst (pc := 737) (0 : Int32) dL_law_737 (by decide) ?_
    cases h
def fL_law_739 (Ln : Nat) (xs : Nat → Int32) (k18 : Int32 → Mm → Option Mm) (v3 : Int32) (σ : Mm) : Option Mm := g_xs Ln xs (v3 + (1 : Int32)) (fun x194 => c_I (fX11_wants 0 x194 σ) (fun x197 σ195 => g_xs Ln xs (v3 + (1 : Int32)) (fun x198 => c_I (fX12_wants 31 x198 σ195) (fun x201 σ199 => if x197 = x201 then (k18 (v3 + (6 : Int32)) σ199) else (none)))))
set_option maxRecDepth 100000 in
set_option maxHeartbeats 4000000 in
theorem tL_law_739 (l : Launch) (E : EV) (b : Nat) {τ : Mm} (Ln : Nat) (xs : Nat → Int32) (k18 : Int32 → Mm → Option Mm) (hk18 : ∀ (v3 : Int32) (σ : Mm), k18 v3 σ = some τ → JL l E b Ln xs σ 18 [(0, .ref b), (1, .ref (e_a E 0 0)), (2, .ref (e_a E 31 0)), (3, .int v3)] []) (v3 : Int32) (σ : Mm) (h : fL_law_739 Ln xs k18 v3 σ = some τ) : JL l E b Ln xs σ 739 [(0, .ref b), (1, .ref (e_a E 0 0)), (2, .ref (e_a E 31 0)), (3, .int v3)] [] := by
  unfold fL_law_739 at h
  refine JL_aload_n (pc := 739) 1 dL_law_739 rfl ?_
  refine JL_aload_n (pc := 740) 0 dL_law_740 rfl ?_
  refine JL_iload_n (pc := 741) 3 dL_law_741 rfl ?_
  refine JL_iconst (pc := 742) (1 : Int32) dL_law_742 (by decide) ?_
  refine JL_iadd (pc := 743) dL_law_743 ?_
  refine JL_xald (pc := 744) dL_law_744 h (fun x194 h => ?_)
  obtain ⟨x197, σ195, hc196, h⟩ := cI_t h
  refine JL_cVi (pc := 745) (ctX11_wants l E 0 x194 rfl σ hc196) dL_law_745 mlL_80 mvX11_wants rfl rfl (by decide) rfl (Nat.le_of_ble_eq_true rfl) ?_
  refine JL_aload_n (pc := 748) 2 dL_law_748 rfl ?_
  refine JL_aload_n (pc := 749) 0 dL_law_749 rfl ?_
  refine JL_iload_n (pc := 750) 3 dL_law_750 rfl ?_
  refine JL_iconst (pc := 751) (1 : Int32) dL_law_751 (by decide) ?_
  refine JL_iadd (pc := 752) dL_law_752 ?_
  refine JL_xald (pc := 753) dL_law_753 h (fun x198 h => ?_)
  obtain ⟨x201, σ199, hc200, h⟩ := cI_t h
  refine JL_cVi (pc := 754) (ctX12_wants l E 31 x198 rfl σ195 hc200) dL_law_754 mlL_83 mvX12_wants rfl rfl (by decide) rfl (Nat.le_of_ble_eq_true rfl) ?_
  refine JL_icmp_eq (pc := 757) 1802 dL_law_757 (by decide) h (fun h => ?_) (fun h => ?_)
  · refine JL_iinc (pc := 1802) (L' := [(3, .int (v3 + (6 : Int32))), (0, .ref b), (1, .ref (e_a E 0 0)), (2, .ref (e_a E 31 0))]) 3 (v3 + (6 : Int32)) dL_law_1802 rfl (by rfl) (by decide) rfl ?_
    refine JL_goto (pc := 1805) 18 dL_law_1805 (by decide) ?_
    refine JL_sub (L' := [(0, .ref b), (1, .ref (e_a E 0 0)), (2, .ref (e_a E 31 0)), (3, .int (v3 + (6 : Int32)))]) [1, 2, 3, 0] rfl ?_
    exact hk18 (v3 + (6 : Int32)) σ199 h
  · refine JL_iconst (pc := 760) (0 : Int32) dL_law_760 (by decide) ?_
    cases h
def fL_law_762 (Ln : Nat) (xs : Nat → Int32) (k18 : Int32 → Mm → Option Mm) (v3 : Int32) (σ : Mm) : Option Mm := g_xs Ln xs (v3 + (1 : Int32)) (fun x202 => c_I (fX11_right 0 x202 σ) (fun x205 σ203 => g_xs Ln xs (v3 + (1 : Int32)) (fun x206 => c_I (fX12_right 31 x206 σ203) (fun x209 σ207 => if x205 = x209 then (k18 (v3 + (6 : Int32)) σ207) else (none)))))
set_option maxRecDepth 100000 in
set_option maxHeartbeats 4000000 in
theorem tL_law_762 (l : Launch) (E : EV) (b : Nat) {τ : Mm} (Ln : Nat) (xs : Nat → Int32) (k18 : Int32 → Mm → Option Mm) (hk18 : ∀ (v3 : Int32) (σ : Mm), k18 v3 σ = some τ → JL l E b Ln xs σ 18 [(0, .ref b), (1, .ref (e_a E 0 0)), (2, .ref (e_a E 31 0)), (3, .int v3)] []) (v3 : Int32) (σ : Mm) (h : fL_law_762 Ln xs k18 v3 σ = some τ) : JL l E b Ln xs σ 762 [(0, .ref b), (1, .ref (e_a E 0 0)), (2, .ref (e_a E 31 0)), (3, .int v3)] [] := by
  unfold fL_law_762 at h
  refine JL_aload_n (pc := 762) 1 dL_law_762 rfl ?_
  refine JL_aload_n (pc := 763) 0 dL_law_763 rfl ?_
  refine JL_iload_n (pc := 764) 3 dL_law_764 rfl ?_
  refine JL_iconst (pc := 765) (1 : Int32) dL_law_765 (by decide) ?_
  refine JL_iadd (pc := 766) dL_law_766 ?_
  refine JL_xald (pc := 767) dL_law_767 h (fun x202 h => ?_)
  obtain ⟨x205, σ203, hc204, h⟩ := cI_t h
  refine JL_cVi (pc := 768) (ctX11_right l E 0 x202 rfl σ hc204) dL_law_768 mlL_84 mvX11_right rfl rfl (by decide) rfl (Nat.le_of_ble_eq_true rfl) ?_
  refine JL_aload_n (pc := 771) 2 dL_law_771 rfl ?_
  refine JL_aload_n (pc := 772) 0 dL_law_772 rfl ?_
  refine JL_iload_n (pc := 773) 3 dL_law_773 rfl ?_
  refine JL_iconst (pc := 774) (1 : Int32) dL_law_774 (by decide) ?_
  refine JL_iadd (pc := 775) dL_law_775 ?_
  refine JL_xald (pc := 776) dL_law_776 h (fun x206 h => ?_)
  obtain ⟨x209, σ207, hc208, h⟩ := cI_t h
  refine JL_cVi (pc := 777) (ctX12_right l E 31 x206 rfl σ203 hc208) dL_law_777 mlL_87 mvX12_right rfl rfl (by decide) rfl (Nat.le_of_ble_eq_true rfl) ?_
  refine JL_icmp_eq (pc := 780) 1802 dL_law_780 (by decide) h (fun h => ?_) (fun h => ?_)
  · refine JL_iinc (pc := 1802) (L' := [(3, .int (v3 + (6 : Int32))), (0, .ref b), (1, .ref (e_a E 0 0)), (2, .ref (e_a E 31 0))]) 3 (v3 + (6 : Int32)) dL_law_1802 rfl (by rfl) (by decide) rfl ?_
    refine JL_goto (pc := 1805) 18 dL_law_1805 (by decide) ?_
    refine JL_sub (L' := [(0, .ref b), (1, .ref (e_a E 0 0)), (2, .ref (e_a E 31 0)), (3, .int (v3 + (6 : Int32)))]) [1, 2, 3, 0] rfl ?_
    exact hk18 (v3 + (6 : Int32)) σ207 h
  · refine JL_iconst (pc := 783) (0 : Int32) dL_law_783 (by decide) ?_
    cases h
def fL_law_785 (Ln : Nat) (xs : Nat → Int32) (k18 : Int32 → Mm → Option Mm) (v3 : Int32) (σ : Mm) : Option Mm := g_xs Ln xs (v3 + (1 : Int32)) (fun x210 => g_xs Ln xs (v3 + (2 : Int32)) (fun x211 => g_xs Ln xs (v3 + (3 : Int32)) (fun x212 => c_I (fX11_wind 0 x210 x211 x212 σ) (fun x215 σ213 => g_xs Ln xs (v3 + (1 : Int32)) (fun x216 => g_xs Ln xs (v3 + (2 : Int32)) (fun x217 => g_xs Ln xs (v3 + (3 : Int32)) (fun x218 => c_I (fX12_wind 31 x216 x217 x218 σ213) (fun x221 σ219 => if x215 = x221 then (k18 (v3 + (6 : Int32)) σ219) else (none)))))))))
set_option maxRecDepth 100000 in
set_option maxHeartbeats 4000000 in
theorem tL_law_785 (l : Launch) (E : EV) (b : Nat) {τ : Mm} (Ln : Nat) (xs : Nat → Int32) (k18 : Int32 → Mm → Option Mm) (hk18 : ∀ (v3 : Int32) (σ : Mm), k18 v3 σ = some τ → JL l E b Ln xs σ 18 [(0, .ref b), (1, .ref (e_a E 0 0)), (2, .ref (e_a E 31 0)), (3, .int v3)] []) (v3 : Int32) (σ : Mm) (h : fL_law_785 Ln xs k18 v3 σ = some τ) : JL l E b Ln xs σ 785 [(0, .ref b), (1, .ref (e_a E 0 0)), (2, .ref (e_a E 31 0)), (3, .int v3)] [] := by
  unfold fL_law_785 at h
  refine JL_aload_n (pc := 785) 1 dL_law_785 rfl ?_
  refine JL_aload_n (pc := 786) 0 dL_law_786 rfl ?_
  refine JL_iload_n (pc := 787) 3 dL_law_787 rfl ?_
  refine JL_iconst (pc := 788) (1 : Int32) dL_law_788 (by decide) ?_
  refine JL_iadd (pc := 789) dL_law_789 ?_
  refine JL_xald (pc := 790) dL_law_790 h (fun x210 h => ?_)
  refine JL_aload_n (pc := 791) 0 dL_law_791 rfl ?_
  refine JL_iload_n (pc := 792) 3 dL_law_792 rfl ?_
  refine JL_iconst (pc := 793) (2 : Int32) dL_law_793 (by decide) ?_
  refine JL_iadd (pc := 794) dL_law_794 ?_
  refine JL_xald (pc := 795) dL_law_795 h (fun x211 h => ?_)
  refine JL_aload_n (pc := 796) 0 dL_law_796 rfl ?_
  refine JL_iload_n (pc := 797) 3 dL_law_797 rfl ?_
  refine JL_iconst (pc := 798) (3 : Int32) dL_law_798 (by decide) ?_
  refine JL_iadd (pc := 799) dL_law_799 ?_
  refine JL_xald (pc := 800) dL_law_800 h (fun x212 h => ?_)
  obtain ⟨x215, σ213, hc214, h⟩ := cI_t h
  refine JL_cVi (pc := 801) (ctX11_wind l E 0 x210 x211 x212 rfl σ hc214) dL_law_801 mlL_88 mvX11_wind rfl rfl (by decide) rfl (Nat.le_of_ble_eq_true rfl) ?_
  refine JL_aload_n (pc := 804) 2 dL_law_804 rfl ?_
  refine JL_aload_n (pc := 805) 0 dL_law_805 rfl ?_
  refine JL_iload_n (pc := 806) 3 dL_law_806 rfl ?_
  refine JL_iconst (pc := 807) (1 : Int32) dL_law_807 (by decide) ?_
  refine JL_iadd (pc := 808) dL_law_808 ?_
  refine JL_xald (pc := 809) dL_law_809 h (fun x216 h => ?_)
  refine JL_aload_n (pc := 810) 0 dL_law_810 rfl ?_
  refine JL_iload_n (pc := 811) 3 dL_law_811 rfl ?_
  refine JL_iconst (pc := 812) (2 : Int32) dL_law_812 (by decide) ?_
  refine JL_iadd (pc := 813) dL_law_813 ?_
  refine JL_xald (pc := 814) dL_law_814 h (fun x217 h => ?_)
  refine JL_aload_n (pc := 815) 0 dL_law_815 rfl ?_
  refine JL_iload_n (pc := 816) 3 dL_law_816 rfl ?_
  refine JL_iconst (pc := 817) (3 : Int32) dL_law_817 (by decide) ?_
  refine JL_iadd (pc := 818) dL_law_818 ?_
  refine JL_xald (pc := 819) dL_law_819 h (fun x218 h => ?_)
  obtain ⟨x221, σ219, hc220, h⟩ := cI_t h
  refine JL_cVi (pc := 820) (ctX12_wind l E 31 x216 x217 x218 rfl σ213 hc220) dL_law_820 mlL_91 mvX12_wind rfl rfl (by decide) rfl (Nat.le_of_ble_eq_true rfl) ?_
  refine JL_icmp_eq (pc := 823) 1802 dL_law_823 (by decide) h (fun h => ?_) (fun h => ?_)
  · refine JL_iinc (pc := 1802) (L' := [(3, .int (v3 + (6 : Int32))), (0, .ref b), (1, .ref (e_a E 0 0)), (2, .ref (e_a E 31 0))]) 3 (v3 + (6 : Int32)) dL_law_1802 rfl (by rfl) (by decide) rfl ?_
    refine JL_goto (pc := 1805) 18 dL_law_1805 (by decide) ?_
    refine JL_sub (L' := [(0, .ref b), (1, .ref (e_a E 0 0)), (2, .ref (e_a E 31 0)), (3, .int (v3 + (6 : Int32)))]) [1, 2, 3, 0] rfl ?_
    exact hk18 (v3 + (6 : Int32)) σ219 h
  · refine JL_iconst (pc := 826) (0 : Int32) dL_law_826 (by decide) ?_
    cases h
def fL_law_828 (Ln : Nat) (xs : Nat → Int32) (k18 : Int32 → Mm → Option Mm) (v3 : Int32) (σ : Mm) : Option Mm := g_xs Ln xs (v3 + (1 : Int32)) (fun x222 => g_xs Ln xs (v3 + (2 : Int32)) (fun x223 => c_I (fX11_windAt 0 x222 x223 σ) (fun x226 σ224 => g_xs Ln xs (v3 + (1 : Int32)) (fun x227 => g_xs Ln xs (v3 + (2 : Int32)) (fun x228 => c_I (fX12_windAt 31 x227 x228 σ224) (fun x231 σ229 => if x226 = x231 then (k18 (v3 + (6 : Int32)) σ229) else (none)))))))
set_option maxRecDepth 100000 in
set_option maxHeartbeats 4000000 in
theorem tL_law_828 (l : Launch) (E : EV) (b : Nat) {τ : Mm} (Ln : Nat) (xs : Nat → Int32) (k18 : Int32 → Mm → Option Mm) (hk18 : ∀ (v3 : Int32) (σ : Mm), k18 v3 σ = some τ → JL l E b Ln xs σ 18 [(0, .ref b), (1, .ref (e_a E 0 0)), (2, .ref (e_a E 31 0)), (3, .int v3)] []) (v3 : Int32) (σ : Mm) (h : fL_law_828 Ln xs k18 v3 σ = some τ) : JL l E b Ln xs σ 828 [(0, .ref b), (1, .ref (e_a E 0 0)), (2, .ref (e_a E 31 0)), (3, .int v3)] [] := by
  unfold fL_law_828 at h
  refine JL_aload_n (pc := 828) 1 dL_law_828 rfl ?_
  refine JL_aload_n (pc := 829) 0 dL_law_829 rfl ?_
  refine JL_iload_n (pc := 830) 3 dL_law_830 rfl ?_
  refine JL_iconst (pc := 831) (1 : Int32) dL_law_831 (by decide) ?_
  refine JL_iadd (pc := 832) dL_law_832 ?_
  refine JL_xald (pc := 833) dL_law_833 h (fun x222 h => ?_)
  refine JL_aload_n (pc := 834) 0 dL_law_834 rfl ?_
  refine JL_iload_n (pc := 835) 3 dL_law_835 rfl ?_
  refine JL_iconst (pc := 836) (2 : Int32) dL_law_836 (by decide) ?_
  refine JL_iadd (pc := 837) dL_law_837 ?_
  refine JL_xald (pc := 838) dL_law_838 h (fun x223 h => ?_)
  obtain ⟨x226, σ224, hc225, h⟩ := cI_t h
  refine JL_cVi (pc := 839) (ctX11_windAt l E 0 x222 x223 rfl σ hc225) dL_law_839 mlL_92 mvX11_windAt rfl rfl (by decide) rfl (Nat.le_of_ble_eq_true rfl) ?_
  refine JL_aload_n (pc := 842) 2 dL_law_842 rfl ?_
  refine JL_aload_n (pc := 843) 0 dL_law_843 rfl ?_
  refine JL_iload_n (pc := 844) 3 dL_law_844 rfl ?_
  refine JL_iconst (pc := 845) (1 : Int32) dL_law_845 (by decide) ?_
  refine JL_iadd (pc := 846) dL_law_846 ?_
  refine JL_xald (pc := 847) dL_law_847 h (fun x227 h => ?_)
  refine JL_aload_n (pc := 848) 0 dL_law_848 rfl ?_
  refine JL_iload_n (pc := 849) 3 dL_law_849 rfl ?_
  refine JL_iconst (pc := 850) (2 : Int32) dL_law_850 (by decide) ?_
  refine JL_iadd (pc := 851) dL_law_851 ?_
  refine JL_xald (pc := 852) dL_law_852 h (fun x228 h => ?_)
  obtain ⟨x231, σ229, hc230, h⟩ := cI_t h
  refine JL_cVi (pc := 853) (ctX12_windAt l E 31 x227 x228 rfl σ224 hc230) dL_law_853 mlL_95 mvX12_windAt rfl rfl (by decide) rfl (Nat.le_of_ble_eq_true rfl) ?_
  refine JL_icmp_eq (pc := 856) 1802 dL_law_856 (by decide) h (fun h => ?_) (fun h => ?_)
  · refine JL_iinc (pc := 1802) (L' := [(3, .int (v3 + (6 : Int32))), (0, .ref b), (1, .ref (e_a E 0 0)), (2, .ref (e_a E 31 0))]) 3 (v3 + (6 : Int32)) dL_law_1802 rfl (by rfl) (by decide) rfl ?_
    refine JL_goto (pc := 1805) 18 dL_law_1805 (by decide) ?_
    refine JL_sub (L' := [(0, .ref b), (1, .ref (e_a E 0 0)), (2, .ref (e_a E 31 0)), (3, .int (v3 + (6 : Int32)))]) [1, 2, 3, 0] rfl ?_
    exact hk18 (v3 + (6 : Int32)) σ229 h
  · refine JL_iconst (pc := 859) (0 : Int32) dL_law_859 (by decide) ?_
    cases h
def fL_law_861 (Ln : Nat) (xs : Nat → Int32) (k18 : Int32 → Mm → Option Mm) (v3 : Int32) (σ : Mm) : Option Mm := g_xs Ln xs (v3 + (1 : Int32)) (fun x232 => g_xs Ln xs (v3 + (2 : Int32)) (fun x233 => if x233 = 0 then (c_I (fX11_lift 0 x232 (0 : Int32) σ) (fun x236 σ234 => g_xs Ln xs (v3 + (1 : Int32)) (fun x237 => g_xs Ln xs (v3 + (2 : Int32)) (fun x238 => if x238 = 0 then (c_I (fX12_lift 31 x237 (0 : Int32) σ234) (fun x241 σ239 => if x236 = x241 then (k18 (v3 + (6 : Int32)) σ239) else (none))) else (c_I (fX12_lift 31 x237 (1 : Int32) σ234) (fun x244 σ242 => if x236 = x244 then (k18 (v3 + (6 : Int32)) σ242) else (none))))))) else (c_I (fX11_lift 0 x232 (1 : Int32) σ) (fun x247 σ245 => g_xs Ln xs (v3 + (1 : Int32)) (fun x248 => g_xs Ln xs (v3 + (2 : Int32)) (fun x249 => if x249 = 0 then (c_I (fX12_lift 31 x248 (0 : Int32) σ245) (fun x252 σ250 => if x247 = x252 then (k18 (v3 + (6 : Int32)) σ250) else (none))) else (c_I (fX12_lift 31 x248 (1 : Int32) σ245) (fun x255 σ253 => if x247 = x255 then (k18 (v3 + (6 : Int32)) σ253) else (none)))))))))
set_option maxRecDepth 100000 in
set_option maxHeartbeats 4000000 in
theorem tL_law_861 (l : Launch) (E : EV) (b : Nat) {τ : Mm} (Ln : Nat) (xs : Nat → Int32) (k18 : Int32 → Mm → Option Mm) (hk18 : ∀ (v3 : Int32) (σ : Mm), k18 v3 σ = some τ → JL l E b Ln xs σ 18 [(0, .ref b), (1, .ref (e_a E 0 0)), (2, .ref (e_a E 31 0)), (3, .int v3)] []) (v3 : Int32) (σ : Mm) (h : fL_law_861 Ln xs k18 v3 σ = some τ) : JL l E b Ln xs σ 861 [(0, .ref b), (1, .ref (e_a E 0 0)), (2, .ref (e_a E 31 0)), (3, .int v3)] [] := by
  unfold fL_law_861 at h
  refine JL_aload_n (pc := 861) 1 dL_law_861 rfl ?_
  refine JL_aload_n (pc := 862) 0 dL_law_862 rfl ?_
  refine JL_iload_n (pc := 863) 3 dL_law_863 rfl ?_
  refine JL_iconst (pc := 864) (1 : Int32) dL_law_864 (by decide) ?_
  refine JL_iadd (pc := 865) dL_law_865 ?_
  refine JL_xald (pc := 866) dL_law_866 h (fun x232 h => ?_)
  refine JL_aload_n (pc := 867) 0 dL_law_867 rfl ?_
  refine JL_iload_n (pc := 868) 3 dL_law_868 rfl ?_
  refine JL_iconst (pc := 869) (2 : Int32) dL_law_869 (by decide) ?_
  refine JL_iadd (pc := 870) dL_law_870 ?_
  refine JL_xald (pc := 871) dL_law_871 h (fun x233 h => ?_)
  refine JL_if_eq (pc := 872) 879 dL_law_872 (by decide) h (fun h => ?_) (fun h => ?_)
  · refine JL_iconst (pc := 879) (0 : Int32) dL_law_879 (by decide) ?_
    obtain ⟨x236, σ234, hc235, h⟩ := cI_t h
    refine JL_cVi (pc := 880) (ctX11_lift l E 0 x232 (0 : Int32) rfl σ hc235) dL_law_880 mlL_96 mvX11_lift rfl rfl (by decide) rfl (Nat.le_of_ble_eq_true rfl) ?_
    refine JL_aload_n (pc := 883) 2 dL_law_883 rfl ?_
    refine JL_aload_n (pc := 884) 0 dL_law_884 rfl ?_
    refine JL_iload_n (pc := 885) 3 dL_law_885 rfl ?_
    refine JL_iconst (pc := 886) (1 : Int32) dL_law_886 (by decide) ?_
    refine JL_iadd (pc := 887) dL_law_887 ?_
    refine JL_xald (pc := 888) dL_law_888 h (fun x237 h => ?_)
    refine JL_aload_n (pc := 889) 0 dL_law_889 rfl ?_
    refine JL_iload_n (pc := 890) 3 dL_law_890 rfl ?_
    refine JL_iconst (pc := 891) (2 : Int32) dL_law_891 (by decide) ?_
    refine JL_iadd (pc := 892) dL_law_892 ?_
    refine JL_xald (pc := 893) dL_law_893 h (fun x238 h => ?_)
    refine JL_if_eq (pc := 894) 901 dL_law_894 (by decide) h (fun h => ?_) (fun h => ?_)
    · refine JL_iconst (pc := 901) (0 : Int32) dL_law_901 (by decide) ?_
      obtain ⟨x241, σ239, hc240, h⟩ := cI_t h
      refine JL_cVi (pc := 902) (ctX12_lift l E 31 x237 (0 : Int32) rfl σ234 hc240) dL_law_902 mlL_100 mvX12_lift rfl rfl (by decide) rfl (Nat.le_of_ble_eq_true rfl) ?_
      refine JL_icmp_eq (pc := 905) 1802 dL_law_905 (by decide) h (fun h => ?_) (fun h => ?_)
      · refine JL_iinc (pc := 1802) (L' := [(3, .int (v3 + (6 : Int32))), (0, .ref b), (1, .ref (e_a E 0 0)), (2, .ref (e_a E 31 0))]) 3 (v3 + (6 : Int32)) dL_law_1802 rfl (by rfl) (by decide) rfl ?_
        refine JL_goto (pc := 1805) 18 dL_law_1805 (by decide) ?_
        refine JL_sub (L' := [(0, .ref b), (1, .ref (e_a E 0 0)), (2, .ref (e_a E 31 0)), (3, .int (v3 + (6 : Int32)))]) [1, 2, 3, 0] rfl ?_
        exact hk18 (v3 + (6 : Int32)) σ239 h
      · refine JL_iconst (pc := 908) (0 : Int32) dL_law_908 (by decide) ?_
        cases h
    · refine JL_iconst (pc := 897) (1 : Int32) dL_law_897 (by decide) ?_
      refine JL_goto (pc := 898) 902 dL_law_898 (by decide) ?_
      obtain ⟨x244, σ242, hc243, h⟩ := cI_t h
      refine JL_cVi (pc := 902) (ctX12_lift l E 31 x237 (1 : Int32) rfl σ234 hc243) dL_law_902 mlL_100 mvX12_lift rfl rfl (by decide) rfl (Nat.le_of_ble_eq_true rfl) ?_
      refine JL_icmp_eq (pc := 905) 1802 dL_law_905 (by decide) h (fun h => ?_) (fun h => ?_)
      · refine JL_iinc (pc := 1802) (L' := [(3, .int (v3 + (6 : Int32))), (0, .ref b), (1, .ref (e_a E 0 0)), (2, .ref (e_a E 31 0))]) 3 (v3 + (6 : Int32)) dL_law_1802 rfl (by rfl) (by decide) rfl ?_
        refine JL_goto (pc := 1805) 18 dL_law_1805 (by decide) ?_
        refine JL_sub (L' := [(0, .ref b), (1, .ref (e_a E 0 0)), (2, .ref (e_a E 31 0)), (3, .int (v3 + (6 : Int32)))]) [1, 2, 3, 0] rfl ?_
        exact hk18 (v3 + (6 : Int32)) σ242 h
      · refine JL_iconst (pc := 908) (0 : Int32) dL_law_908 (by decide) ?_
        cases h
  · refine JL_iconst (pc := 875) (1 : Int32) dL_law_875 (by decide) ?_
    refine JL_goto (pc := 876) 880 dL_law_876 (by decide) ?_
    obtain ⟨x247, σ245, hc246, h⟩ := cI_t h
    refine JL_cVi (pc := 880) (ctX11_lift l E 0 x232 (1 : Int32) rfl σ hc246) dL_law_880 mlL_96 mvX11_lift rfl rfl (by decide) rfl (Nat.le_of_ble_eq_true rfl) ?_
    refine JL_aload_n (pc := 883) 2 dL_law_883 rfl ?_
    refine JL_aload_n (pc := 884) 0 dL_law_884 rfl ?_
    refine JL_iload_n (pc := 885) 3 dL_law_885 rfl ?_
    refine JL_iconst (pc := 886) (1 : Int32) dL_law_886 (by decide) ?_
    refine JL_iadd (pc := 887) dL_law_887 ?_
    refine JL_xald (pc := 888) dL_law_888 h (fun x248 h => ?_)
    refine JL_aload_n (pc := 889) 0 dL_law_889 rfl ?_
    refine JL_iload_n (pc := 890) 3 dL_law_890 rfl ?_
    refine JL_iconst (pc := 891) (2 : Int32) dL_law_891 (by decide) ?_
    refine JL_iadd (pc := 892) dL_law_892 ?_
    refine JL_xald (pc := 893) dL_law_893 h (fun x249 h => ?_)
    refine JL_if_eq (pc := 894) 901 dL_law_894 (by decide) h (fun h => ?_) (fun h => ?_)
    · refine JL_iconst (pc := 901) (0 : Int32) dL_law_901 (by decide) ?_
      obtain ⟨x252, σ250, hc251, h⟩ := cI_t h
      refine JL_cVi (pc := 902) (ctX12_lift l E 31 x248 (0 : Int32) rfl σ245 hc251) dL_law_902 mlL_100 mvX12_lift rfl rfl (by decide) rfl (Nat.le_of_ble_eq_true rfl) ?_
      refine JL_icmp_eq (pc := 905) 1802 dL_law_905 (by decide) h (fun h => ?_) (fun h => ?_)
      · refine JL_iinc (pc := 1802) (L' := [(3, .int (v3 + (6 : Int32))), (0, .ref b), (1, .ref (e_a E 0 0)), (2, .ref (e_a E 31 0))]) 3 (v3 + (6 : Int32)) dL_law_1802 rfl (by rfl) (by decide) rfl ?_
        refine JL_goto (pc := 1805) 18 dL_law_1805 (by decide) ?_
        refine JL_sub (L' := [(0, .ref b), (1, .ref (e_a E 0 0)), (2, .ref (e_a E 31 0)), (3, .int (v3 + (6 : Int32)))]) [1, 2, 3, 0] rfl ?_
        exact hk18 (v3 + (6 : Int32)) σ250 h
      · refine JL_iconst (pc := 908) (0 : Int32) dL_law_908 (by decide) ?_
        cases h
    · refine JL_iconst (pc := 897) (1 : Int32) dL_law_897 (by decide) ?_
      refine JL_goto (pc := 898) 902 dL_law_898 (by decide) ?_
      obtain ⟨x255, σ253, hc254, h⟩ := cI_t h
      refine JL_cVi (pc := 902) (ctX12_lift l E 31 x248 (1 : Int32) rfl σ245 hc254) dL_law_902 mlL_100 mvX12_lift rfl rfl (by decide) rfl (Nat.le_of_ble_eq_true rfl) ?_
      refine JL_icmp_eq (pc := 905) 1802 dL_law_905 (by decide) h (fun h => ?_) (fun h => ?_)
      · refine JL_iinc (pc := 1802) (L' := [(3, .int (v3 + (6 : Int32))), (0, .ref b), (1, .ref (e_a E 0 0)), (2, .ref (e_a E 31 0))]) 3 (v3 + (6 : Int32)) dL_law_1802 rfl (by rfl) (by decide) rfl ?_
        refine JL_goto (pc := 1805) 18 dL_law_1805 (by decide) ?_
        refine JL_sub (L' := [(0, .ref b), (1, .ref (e_a E 0 0)), (2, .ref (e_a E 31 0)), (3, .int (v3 + (6 : Int32)))]) [1, 2, 3, 0] rfl ?_
        exact hk18 (v3 + (6 : Int32)) σ253 h
      · refine JL_iconst (pc := 908) (0 : Int32) dL_law_908 (by decide) ?_
        cases h
def fL_law_910 (Ln : Nat) (xs : Nat → Int32) (k18 : Int32 → Mm → Option Mm) (v3 : Int32) (σ : Mm) : Option Mm := g_xs Ln xs (v3 + (1 : Int32)) (fun x256 => g_xs Ln xs (v3 + (2 : Int32)) (fun x257 => if x257 = 0 then (c_I (fX11_hold 0 x256 (0 : Int32) σ) (fun x260 σ258 => g_xs Ln xs (v3 + (1 : Int32)) (fun x261 => g_xs Ln xs (v3 + (2 : Int32)) (fun x262 => if x262 = 0 then (c_I (fX12_hold 31 x261 (0 : Int32) σ258) (fun x265 σ263 => if x260 = x265 then (k18 (v3 + (6 : Int32)) σ263) else (none))) else (c_I (fX12_hold 31 x261 (1 : Int32) σ258) (fun x268 σ266 => if x260 = x268 then (k18 (v3 + (6 : Int32)) σ266) else (none))))))) else (c_I (fX11_hold 0 x256 (1 : Int32) σ) (fun x271 σ269 => g_xs Ln xs (v3 + (1 : Int32)) (fun x272 => g_xs Ln xs (v3 + (2 : Int32)) (fun x273 => if x273 = 0 then (c_I (fX12_hold 31 x272 (0 : Int32) σ269) (fun x276 σ274 => if x271 = x276 then (k18 (v3 + (6 : Int32)) σ274) else (none))) else (c_I (fX12_hold 31 x272 (1 : Int32) σ269) (fun x279 σ277 => if x271 = x279 then (k18 (v3 + (6 : Int32)) σ277) else (none)))))))))
set_option maxRecDepth 100000 in
set_option maxHeartbeats 4000000 in
theorem tL_law_910 (l : Launch) (E : EV) (b : Nat) {τ : Mm} (Ln : Nat) (xs : Nat → Int32) (k18 : Int32 → Mm → Option Mm) (hk18 : ∀ (v3 : Int32) (σ : Mm), k18 v3 σ = some τ → JL l E b Ln xs σ 18 [(0, .ref b), (1, .ref (e_a E 0 0)), (2, .ref (e_a E 31 0)), (3, .int v3)] []) (v3 : Int32) (σ : Mm) (h : fL_law_910 Ln xs k18 v3 σ = some τ) : JL l E b Ln xs σ 910 [(0, .ref b), (1, .ref (e_a E 0 0)), (2, .ref (e_a E 31 0)), (3, .int v3)] [] := by
  unfold fL_law_910 at h
  refine JL_aload_n (pc := 910) 1 dL_law_910 rfl ?_
  refine JL_aload_n (pc := 911) 0 dL_law_911 rfl ?_
  refine JL_iload_n (pc := 912) 3 dL_law_912 rfl ?_
  refine JL_iconst (pc := 913) (1 : Int32) dL_law_913 (by decide) ?_
  refine JL_iadd (pc := 914) dL_law_914 ?_
  refine JL_xald (pc := 915) dL_law_915 h (fun x256 h => ?_)
  refine JL_aload_n (pc := 916) 0 dL_law_916 rfl ?_
  refine JL_iload_n (pc := 917) 3 dL_law_917 rfl ?_
  refine JL_iconst (pc := 918) (2 : Int32) dL_law_918 (by decide) ?_
  refine JL_iadd (pc := 919) dL_law_919 ?_
  refine JL_xald (pc := 920) dL_law_920 h (fun x257 h => ?_)
  refine JL_if_eq (pc := 921) 928 dL_law_921 (by decide) h (fun h => ?_) (fun h => ?_)
  · refine JL_iconst (pc := 928) (0 : Int32) dL_law_928 (by decide) ?_
    obtain ⟨x260, σ258, hc259, h⟩ := cI_t h
    refine JL_cVi (pc := 929) (ctX11_hold l E 0 x256 (0 : Int32) rfl σ hc259) dL_law_929 mlL_101 mvX11_hold rfl rfl (by decide) rfl (Nat.le_of_ble_eq_true rfl) ?_
    refine JL_aload_n (pc := 932) 2 dL_law_932 rfl ?_
    refine JL_aload_n (pc := 933) 0 dL_law_933 rfl ?_
    refine JL_iload_n (pc := 934) 3 dL_law_934 rfl ?_
    refine JL_iconst (pc := 935) (1 : Int32) dL_law_935 (by decide) ?_
    refine JL_iadd (pc := 936) dL_law_936 ?_
    refine JL_xald (pc := 937) dL_law_937 h (fun x261 h => ?_)
    refine JL_aload_n (pc := 938) 0 dL_law_938 rfl ?_
    refine JL_iload_n (pc := 939) 3 dL_law_939 rfl ?_
    refine JL_iconst (pc := 940) (2 : Int32) dL_law_940 (by decide) ?_
    refine JL_iadd (pc := 941) dL_law_941 ?_
    refine JL_xald (pc := 942) dL_law_942 h (fun x262 h => ?_)
    refine JL_if_eq (pc := 943) 950 dL_law_943 (by decide) h (fun h => ?_) (fun h => ?_)
    · refine JL_iconst (pc := 950) (0 : Int32) dL_law_950 (by decide) ?_
      obtain ⟨x265, σ263, hc264, h⟩ := cI_t h
      refine JL_cVi (pc := 951) (ctX12_hold l E 31 x261 (0 : Int32) rfl σ258 hc264) dL_law_951 mlL_104 mvX12_hold rfl rfl (by decide) rfl (Nat.le_of_ble_eq_true rfl) ?_
      refine JL_icmp_eq (pc := 954) 1802 dL_law_954 (by decide) h (fun h => ?_) (fun h => ?_)
      · refine JL_iinc (pc := 1802) (L' := [(3, .int (v3 + (6 : Int32))), (0, .ref b), (1, .ref (e_a E 0 0)), (2, .ref (e_a E 31 0))]) 3 (v3 + (6 : Int32)) dL_law_1802 rfl (by rfl) (by decide) rfl ?_
        refine JL_goto (pc := 1805) 18 dL_law_1805 (by decide) ?_
        refine JL_sub (L' := [(0, .ref b), (1, .ref (e_a E 0 0)), (2, .ref (e_a E 31 0)), (3, .int (v3 + (6 : Int32)))]) [1, 2, 3, 0] rfl ?_
        exact hk18 (v3 + (6 : Int32)) σ263 h
      · refine JL_iconst (pc := 957) (0 : Int32) dL_law_957 (by decide) ?_
        cases h
    · refine JL_iconst (pc := 946) (1 : Int32) dL_law_946 (by decide) ?_
      refine JL_goto (pc := 947) 951 dL_law_947 (by decide) ?_
      obtain ⟨x268, σ266, hc267, h⟩ := cI_t h
      refine JL_cVi (pc := 951) (ctX12_hold l E 31 x261 (1 : Int32) rfl σ258 hc267) dL_law_951 mlL_104 mvX12_hold rfl rfl (by decide) rfl (Nat.le_of_ble_eq_true rfl) ?_
      refine JL_icmp_eq (pc := 954) 1802 dL_law_954 (by decide) h (fun h => ?_) (fun h => ?_)
      · refine JL_iinc (pc := 1802) (L' := [(3, .int (v3 + (6 : Int32))), (0, .ref b), (1, .ref (e_a E 0 0)), (2, .ref (e_a E 31 0))]) 3 (v3 + (6 : Int32)) dL_law_1802 rfl (by rfl) (by decide) rfl ?_
        refine JL_goto (pc := 1805) 18 dL_law_1805 (by decide) ?_
        refine JL_sub (L' := [(0, .ref b), (1, .ref (e_a E 0 0)), (2, .ref (e_a E 31 0)), (3, .int (v3 + (6 : Int32)))]) [1, 2, 3, 0] rfl ?_
        exact hk18 (v3 + (6 : Int32)) σ266 h
      · refine JL_iconst (pc := 957) (0 : Int32) dL_law_957 (by decide) ?_
        cases h
  · refine JL_iconst (pc := 924) (1 : Int32) dL_law_924 (by decide) ?_
    refine JL_goto (pc := 925) 929 dL_law_925 (by decide) ?_
    obtain ⟨x271, σ269, hc270, h⟩ := cI_t h
    refine JL_cVi (pc := 929) (ctX11_hold l E 0 x256 (1 : Int32) rfl σ hc270) dL_law_929 mlL_101 mvX11_hold rfl rfl (by decide) rfl (Nat.le_of_ble_eq_true rfl) ?_
    refine JL_aload_n (pc := 932) 2 dL_law_932 rfl ?_
    refine JL_aload_n (pc := 933) 0 dL_law_933 rfl ?_
    refine JL_iload_n (pc := 934) 3 dL_law_934 rfl ?_
    refine JL_iconst (pc := 935) (1 : Int32) dL_law_935 (by decide) ?_
    refine JL_iadd (pc := 936) dL_law_936 ?_
    refine JL_xald (pc := 937) dL_law_937 h (fun x272 h => ?_)
    refine JL_aload_n (pc := 938) 0 dL_law_938 rfl ?_
    refine JL_iload_n (pc := 939) 3 dL_law_939 rfl ?_
    refine JL_iconst (pc := 940) (2 : Int32) dL_law_940 (by decide) ?_
    refine JL_iadd (pc := 941) dL_law_941 ?_
    refine JL_xald (pc := 942) dL_law_942 h (fun x273 h => ?_)
    refine JL_if_eq (pc := 943) 950 dL_law_943 (by decide) h (fun h => ?_) (fun h => ?_)
    · refine JL_iconst (pc := 950) (0 : Int32) dL_law_950 (by decide) ?_
      obtain ⟨x276, σ274, hc275, h⟩ := cI_t h
      refine JL_cVi (pc := 951) (ctX12_hold l E 31 x272 (0 : Int32) rfl σ269 hc275) dL_law_951 mlL_104 mvX12_hold rfl rfl (by decide) rfl (Nat.le_of_ble_eq_true rfl) ?_
      refine JL_icmp_eq (pc := 954) 1802 dL_law_954 (by decide) h (fun h => ?_) (fun h => ?_)
      · refine JL_iinc (pc := 1802) (L' := [(3, .int (v3 + (6 : Int32))), (0, .ref b), (1, .ref (e_a E 0 0)), (2, .ref (e_a E 31 0))]) 3 (v3 + (6 : Int32)) dL_law_1802 rfl (by rfl) (by decide) rfl ?_
        refine JL_goto (pc := 1805) 18 dL_law_1805 (by decide) ?_
        refine JL_sub (L' := [(0, .ref b), (1, .ref (e_a E 0 0)), (2, .ref (e_a E 31 0)), (3, .int (v3 + (6 : Int32)))]) [1, 2, 3, 0] rfl ?_
        exact hk18 (v3 + (6 : Int32)) σ274 h
      · refine JL_iconst (pc := 957) (0 : Int32) dL_law_957 (by decide) ?_
        cases h
    · refine JL_iconst (pc := 946) (1 : Int32) dL_law_946 (by decide) ?_
      refine JL_goto (pc := 947) 951 dL_law_947 (by decide) ?_
      obtain ⟨x279, σ277, hc278, h⟩ := cI_t h
      refine JL_cVi (pc := 951) (ctX12_hold l E 31 x272 (1 : Int32) rfl σ269 hc278) dL_law_951 mlL_104 mvX12_hold rfl rfl (by decide) rfl (Nat.le_of_ble_eq_true rfl) ?_
      refine JL_icmp_eq (pc := 954) 1802 dL_law_954 (by decide) h (fun h => ?_) (fun h => ?_)
      · refine JL_iinc (pc := 1802) (L' := [(3, .int (v3 + (6 : Int32))), (0, .ref b), (1, .ref (e_a E 0 0)), (2, .ref (e_a E 31 0))]) 3 (v3 + (6 : Int32)) dL_law_1802 rfl (by rfl) (by decide) rfl ?_
        refine JL_goto (pc := 1805) 18 dL_law_1805 (by decide) ?_
        refine JL_sub (L' := [(0, .ref b), (1, .ref (e_a E 0 0)), (2, .ref (e_a E 31 0)), (3, .int (v3 + (6 : Int32)))]) [1, 2, 3, 0] rfl ?_
        exact hk18 (v3 + (6 : Int32)) σ277 h
      · refine JL_iconst (pc := 957) (0 : Int32) dL_law_957 (by decide) ?_
        cases h
def fL_law_959 (Ln : Nat) (xs : Nat → Int32) (k18 : Int32 → Mm → Option Mm) (v3 : Int32) (σ : Mm) : Option Mm := g_xs Ln xs (v3 + (1 : Int32)) (fun x280 => c_I (fX11_pass 0 x280 σ) (fun x283 σ281 => g_xs Ln xs (v3 + (1 : Int32)) (fun x284 => c_I (fX12_pass 31 x284 σ281) (fun x287 σ285 => if x283 = x287 then (k18 (v3 + (6 : Int32)) σ285) else (none)))))
set_option maxRecDepth 100000 in
set_option maxHeartbeats 4000000 in
theorem tL_law_959 (l : Launch) (E : EV) (b : Nat) {τ : Mm} (Ln : Nat) (xs : Nat → Int32) (k18 : Int32 → Mm → Option Mm) (hk18 : ∀ (v3 : Int32) (σ : Mm), k18 v3 σ = some τ → JL l E b Ln xs σ 18 [(0, .ref b), (1, .ref (e_a E 0 0)), (2, .ref (e_a E 31 0)), (3, .int v3)] []) (v3 : Int32) (σ : Mm) (h : fL_law_959 Ln xs k18 v3 σ = some τ) : JL l E b Ln xs σ 959 [(0, .ref b), (1, .ref (e_a E 0 0)), (2, .ref (e_a E 31 0)), (3, .int v3)] [] := by
  unfold fL_law_959 at h
  refine JL_aload_n (pc := 959) 1 dL_law_959 rfl ?_
  refine JL_aload_n (pc := 960) 0 dL_law_960 rfl ?_
  refine JL_iload_n (pc := 961) 3 dL_law_961 rfl ?_
  refine JL_iconst (pc := 962) (1 : Int32) dL_law_962 (by decide) ?_
  refine JL_iadd (pc := 963) dL_law_963 ?_
  refine JL_xald (pc := 964) dL_law_964 h (fun x280 h => ?_)
  obtain ⟨x283, σ281, hc282, h⟩ := cI_t h
  refine JL_cVi (pc := 965) (ctX11_pass l E 0 x280 rfl σ hc282) dL_law_965 mlL_105 mvX11_pass rfl rfl (by decide) rfl (Nat.le_of_ble_eq_true rfl) ?_
  refine JL_aload_n (pc := 968) 2 dL_law_968 rfl ?_
  refine JL_aload_n (pc := 969) 0 dL_law_969 rfl ?_
  refine JL_iload_n (pc := 970) 3 dL_law_970 rfl ?_
  refine JL_iconst (pc := 971) (1 : Int32) dL_law_971 (by decide) ?_
  refine JL_iadd (pc := 972) dL_law_972 ?_
  refine JL_xald (pc := 973) dL_law_973 h (fun x284 h => ?_)
  obtain ⟨x287, σ285, hc286, h⟩ := cI_t h
  refine JL_cVi (pc := 974) (ctX12_pass l E 31 x284 rfl σ281 hc286) dL_law_974 mlL_108 mvX12_pass rfl rfl (by decide) rfl (Nat.le_of_ble_eq_true rfl) ?_
  refine JL_icmp_eq (pc := 977) 1802 dL_law_977 (by decide) h (fun h => ?_) (fun h => ?_)
  · refine JL_iinc (pc := 1802) (L' := [(3, .int (v3 + (6 : Int32))), (0, .ref b), (1, .ref (e_a E 0 0)), (2, .ref (e_a E 31 0))]) 3 (v3 + (6 : Int32)) dL_law_1802 rfl (by rfl) (by decide) rfl ?_
    refine JL_goto (pc := 1805) 18 dL_law_1805 (by decide) ?_
    refine JL_sub (L' := [(0, .ref b), (1, .ref (e_a E 0 0)), (2, .ref (e_a E 31 0)), (3, .int (v3 + (6 : Int32)))]) [1, 2, 3, 0] rfl ?_
    exact hk18 (v3 + (6 : Int32)) σ285 h
  · refine JL_iconst (pc := 980) (0 : Int32) dL_law_980 (by decide) ?_
    cases h
def fL_law_982 (Ln : Nat) (xs : Nat → Int32) (k18 : Int32 → Mm → Option Mm) (v3 : Int32) (σ : Mm) : Option Mm := g_xs Ln xs (v3 + (1 : Int32)) (fun x288 => g_xs Ln xs (v3 + (2 : Int32)) (fun x289 => c_I (fX11_turn 0 x288 x289 σ) (fun x292 σ290 => g_xs Ln xs (v3 + (1 : Int32)) (fun x293 => g_xs Ln xs (v3 + (2 : Int32)) (fun x294 => c_I (fX12_turn 31 x293 x294 σ290) (fun x297 σ295 => if x292 = x297 then (k18 (v3 + (6 : Int32)) σ295) else (none)))))))
set_option maxRecDepth 100000 in
set_option maxHeartbeats 4000000 in
theorem tL_law_982 (l : Launch) (E : EV) (b : Nat) {τ : Mm} (Ln : Nat) (xs : Nat → Int32) (k18 : Int32 → Mm → Option Mm) (hk18 : ∀ (v3 : Int32) (σ : Mm), k18 v3 σ = some τ → JL l E b Ln xs σ 18 [(0, .ref b), (1, .ref (e_a E 0 0)), (2, .ref (e_a E 31 0)), (3, .int v3)] []) (v3 : Int32) (σ : Mm) (h : fL_law_982 Ln xs k18 v3 σ = some τ) : JL l E b Ln xs σ 982 [(0, .ref b), (1, .ref (e_a E 0 0)), (2, .ref (e_a E 31 0)), (3, .int v3)] [] := by
  unfold fL_law_982 at h
  refine JL_aload_n (pc := 982) 1 dL_law_982 rfl ?_
  refine JL_aload_n (pc := 983) 0 dL_law_983 rfl ?_
  refine JL_iload_n (pc := 984) 3 dL_law_984 rfl ?_
  refine JL_iconst (pc := 985) (1 : Int32) dL_law_985 (by decide) ?_
  refine JL_iadd (pc := 986) dL_law_986 ?_
  refine JL_xald (pc := 987) dL_law_987 h (fun x288 h => ?_)
  refine JL_aload_n (pc := 988) 0 dL_law_988 rfl ?_
  refine JL_iload_n (pc := 989) 3 dL_law_989 rfl ?_
  refine JL_iconst (pc := 990) (2 : Int32) dL_law_990 (by decide) ?_
  refine JL_iadd (pc := 991) dL_law_991 ?_
  refine JL_xald (pc := 992) dL_law_992 h (fun x289 h => ?_)
  obtain ⟨x292, σ290, hc291, h⟩ := cI_t h
  refine JL_cVi (pc := 993) (ctX11_turn l E 0 x288 x289 rfl σ hc291) dL_law_993 mlL_109 mvX11_turn rfl rfl (by decide) rfl (Nat.le_of_ble_eq_true rfl) ?_
  refine JL_aload_n (pc := 996) 2 dL_law_996 rfl ?_
  refine JL_aload_n (pc := 997) 0 dL_law_997 rfl ?_
  refine JL_iload_n (pc := 998) 3 dL_law_998 rfl ?_
  refine JL_iconst (pc := 999) (1 : Int32) dL_law_999 (by decide) ?_
  refine JL_iadd (pc := 1000) dL_law_1000 ?_
  refine JL_xald (pc := 1001) dL_law_1001 h (fun x293 h => ?_)
  refine JL_aload_n (pc := 1002) 0 dL_law_1002 rfl ?_
  refine JL_iload_n (pc := 1003) 3 dL_law_1003 rfl ?_
  refine JL_iconst (pc := 1004) (2 : Int32) dL_law_1004 (by decide) ?_
  refine JL_iadd (pc := 1005) dL_law_1005 ?_
  refine JL_xald (pc := 1006) dL_law_1006 h (fun x294 h => ?_)
  obtain ⟨x297, σ295, hc296, h⟩ := cI_t h
  refine JL_cVi (pc := 1007) (ctX12_turn l E 31 x293 x294 rfl σ290 hc296) dL_law_1007 mlL_112 mvX12_turn rfl rfl (by decide) rfl (Nat.le_of_ble_eq_true rfl) ?_
  refine JL_icmp_eq (pc := 1010) 1802 dL_law_1010 (by decide) h (fun h => ?_) (fun h => ?_)
  · refine JL_iinc (pc := 1802) (L' := [(3, .int (v3 + (6 : Int32))), (0, .ref b), (1, .ref (e_a E 0 0)), (2, .ref (e_a E 31 0))]) 3 (v3 + (6 : Int32)) dL_law_1802 rfl (by rfl) (by decide) rfl ?_
    refine JL_goto (pc := 1805) 18 dL_law_1805 (by decide) ?_
    refine JL_sub (L' := [(0, .ref b), (1, .ref (e_a E 0 0)), (2, .ref (e_a E 31 0)), (3, .int (v3 + (6 : Int32)))]) [1, 2, 3, 0] rfl ?_
    exact hk18 (v3 + (6 : Int32)) σ295 h
  · refine JL_iconst (pc := 1013) (0 : Int32) dL_law_1013 (by decide) ?_
    cases h
def fL_law_1015 (Ln : Nat) (xs : Nat → Int32) (k18 : Int32 → Mm → Option Mm) (v3 : Int32) (σ : Mm) : Option Mm := g_xs Ln xs (v3 + (1 : Int32)) (fun x298 => g_xs Ln xs (v3 + (2 : Int32)) (fun x299 => c_I (fX11_drags 0 x298 x299 σ) (fun x302 σ300 => g_xs Ln xs (v3 + (1 : Int32)) (fun x303 => g_xs Ln xs (v3 + (2 : Int32)) (fun x304 => c_I (fX12_drags 31 x303 x304 σ300) (fun x307 σ305 => if x302 = x307 then (k18 (v3 + (6 : Int32)) σ305) else (none)))))))
set_option maxRecDepth 100000 in
set_option maxHeartbeats 4000000 in
theorem tL_law_1015 (l : Launch) (E : EV) (b : Nat) {τ : Mm} (Ln : Nat) (xs : Nat → Int32) (k18 : Int32 → Mm → Option Mm) (hk18 : ∀ (v3 : Int32) (σ : Mm), k18 v3 σ = some τ → JL l E b Ln xs σ 18 [(0, .ref b), (1, .ref (e_a E 0 0)), (2, .ref (e_a E 31 0)), (3, .int v3)] []) (v3 : Int32) (σ : Mm) (h : fL_law_1015 Ln xs k18 v3 σ = some τ) : JL l E b Ln xs σ 1015 [(0, .ref b), (1, .ref (e_a E 0 0)), (2, .ref (e_a E 31 0)), (3, .int v3)] [] := by
  unfold fL_law_1015 at h
  refine JL_aload_n (pc := 1015) 1 dL_law_1015 rfl ?_
  refine JL_aload_n (pc := 1016) 0 dL_law_1016 rfl ?_
  refine JL_iload_n (pc := 1017) 3 dL_law_1017 rfl ?_
  refine JL_iconst (pc := 1018) (1 : Int32) dL_law_1018 (by decide) ?_
  refine JL_iadd (pc := 1019) dL_law_1019 ?_
  refine JL_xald (pc := 1020) dL_law_1020 h (fun x298 h => ?_)
  refine JL_aload_n (pc := 1021) 0 dL_law_1021 rfl ?_
  refine JL_iload_n (pc := 1022) 3 dL_law_1022 rfl ?_
  refine JL_iconst (pc := 1023) (2 : Int32) dL_law_1023 (by decide) ?_
  refine JL_iadd (pc := 1024) dL_law_1024 ?_
  refine JL_xald (pc := 1025) dL_law_1025 h (fun x299 h => ?_)
  obtain ⟨x302, σ300, hc301, h⟩ := cI_t h
  refine JL_cVi (pc := 1026) (ctX11_drags l E 0 x298 x299 rfl σ hc301) dL_law_1026 mlL_113 mvX11_drags rfl rfl (by decide) rfl (Nat.le_of_ble_eq_true rfl) ?_
  refine JL_aload_n (pc := 1029) 2 dL_law_1029 rfl ?_
  refine JL_aload_n (pc := 1030) 0 dL_law_1030 rfl ?_
  refine JL_iload_n (pc := 1031) 3 dL_law_1031 rfl ?_
  refine JL_iconst (pc := 1032) (1 : Int32) dL_law_1032 (by decide) ?_
  refine JL_iadd (pc := 1033) dL_law_1033 ?_
  refine JL_xald (pc := 1034) dL_law_1034 h (fun x303 h => ?_)
  refine JL_aload_n (pc := 1035) 0 dL_law_1035 rfl ?_
  refine JL_iload_n (pc := 1036) 3 dL_law_1036 rfl ?_
  refine JL_iconst (pc := 1037) (2 : Int32) dL_law_1037 (by decide) ?_
  refine JL_iadd (pc := 1038) dL_law_1038 ?_
  refine JL_xald (pc := 1039) dL_law_1039 h (fun x304 h => ?_)
  obtain ⟨x307, σ305, hc306, h⟩ := cI_t h
  refine JL_cVi (pc := 1040) (ctX12_drags l E 31 x303 x304 rfl σ300 hc306) dL_law_1040 mlL_116 mvX12_drags rfl rfl (by decide) rfl (Nat.le_of_ble_eq_true rfl) ?_
  refine JL_icmp_eq (pc := 1043) 1802 dL_law_1043 (by decide) h (fun h => ?_) (fun h => ?_)
  · refine JL_iinc (pc := 1802) (L' := [(3, .int (v3 + (6 : Int32))), (0, .ref b), (1, .ref (e_a E 0 0)), (2, .ref (e_a E 31 0))]) 3 (v3 + (6 : Int32)) dL_law_1802 rfl (by rfl) (by decide) rfl ?_
    refine JL_goto (pc := 1805) 18 dL_law_1805 (by decide) ?_
    refine JL_sub (L' := [(0, .ref b), (1, .ref (e_a E 0 0)), (2, .ref (e_a E 31 0)), (3, .int (v3 + (6 : Int32)))]) [1, 2, 3, 0] rfl ?_
    exact hk18 (v3 + (6 : Int32)) σ305 h
  · refine JL_iconst (pc := 1046) (0 : Int32) dL_law_1046 (by decide) ?_
    cases h
def fL_law_1048 (Ln : Nat) (xs : Nat → Int32) (k18 : Int32 → Mm → Option Mm) (v3 : Int32) (σ : Mm) : Option Mm := g_xs Ln xs (v3 + (1 : Int32)) (fun x308 => c_I (fX11_joined 0 x308 σ) (fun x311 σ309 => g_xs Ln xs (v3 + (1 : Int32)) (fun x312 => c_I (fX12_joined 31 x312 σ309) (fun x315 σ313 => if x311 = x315 then (k18 (v3 + (6 : Int32)) σ313) else (none)))))
set_option maxRecDepth 100000 in
set_option maxHeartbeats 4000000 in
theorem tL_law_1048 (l : Launch) (E : EV) (b : Nat) {τ : Mm} (Ln : Nat) (xs : Nat → Int32) (k18 : Int32 → Mm → Option Mm) (hk18 : ∀ (v3 : Int32) (σ : Mm), k18 v3 σ = some τ → JL l E b Ln xs σ 18 [(0, .ref b), (1, .ref (e_a E 0 0)), (2, .ref (e_a E 31 0)), (3, .int v3)] []) (v3 : Int32) (σ : Mm) (h : fL_law_1048 Ln xs k18 v3 σ = some τ) : JL l E b Ln xs σ 1048 [(0, .ref b), (1, .ref (e_a E 0 0)), (2, .ref (e_a E 31 0)), (3, .int v3)] [] := by
  unfold fL_law_1048 at h
  refine JL_aload_n (pc := 1048) 1 dL_law_1048 rfl ?_
  refine JL_aload_n (pc := 1049) 0 dL_law_1049 rfl ?_
  refine JL_iload_n (pc := 1050) 3 dL_law_1050 rfl ?_
  refine JL_iconst (pc := 1051) (1 : Int32) dL_law_1051 (by decide) ?_
  refine JL_iadd (pc := 1052) dL_law_1052 ?_
  refine JL_xald (pc := 1053) dL_law_1053 h (fun x308 h => ?_)
  obtain ⟨x311, σ309, hc310, h⟩ := cI_t h
  refine JL_cVi (pc := 1054) (ctX11_joined l E 0 x308 rfl σ hc310) dL_law_1054 mlL_117 mvX11_joined rfl rfl (by decide) rfl (Nat.le_of_ble_eq_true rfl) ?_
  refine JL_aload_n (pc := 1057) 2 dL_law_1057 rfl ?_
  refine JL_aload_n (pc := 1058) 0 dL_law_1058 rfl ?_
  refine JL_iload_n (pc := 1059) 3 dL_law_1059 rfl ?_
  refine JL_iconst (pc := 1060) (1 : Int32) dL_law_1060 (by decide) ?_
  refine JL_iadd (pc := 1061) dL_law_1061 ?_
  refine JL_xald (pc := 1062) dL_law_1062 h (fun x312 h => ?_)
  obtain ⟨x315, σ313, hc314, h⟩ := cI_t h
  refine JL_cVi (pc := 1063) (ctX12_joined l E 31 x312 rfl σ309 hc314) dL_law_1063 mlL_120 mvX12_joined rfl rfl (by decide) rfl (Nat.le_of_ble_eq_true rfl) ?_
  refine JL_icmp_eq (pc := 1066) 1802 dL_law_1066 (by decide) h (fun h => ?_) (fun h => ?_)
  · refine JL_iinc (pc := 1802) (L' := [(3, .int (v3 + (6 : Int32))), (0, .ref b), (1, .ref (e_a E 0 0)), (2, .ref (e_a E 31 0))]) 3 (v3 + (6 : Int32)) dL_law_1802 rfl (by rfl) (by decide) rfl ?_
    refine JL_goto (pc := 1805) 18 dL_law_1805 (by decide) ?_
    refine JL_sub (L' := [(0, .ref b), (1, .ref (e_a E 0 0)), (2, .ref (e_a E 31 0)), (3, .int (v3 + (6 : Int32)))]) [1, 2, 3, 0] rfl ?_
    exact hk18 (v3 + (6 : Int32)) σ313 h
  · refine JL_iconst (pc := 1069) (0 : Int32) dL_law_1069 (by decide) ?_
    cases h
def fL_law_1071 (Ln : Nat) (xs : Nat → Int32) (k18 : Int32 → Mm → Option Mm) (v3 : Int32) (σ : Mm) : Option Mm := g_xs Ln xs (v3 + (1 : Int32)) (fun x316 => g_xs Ln xs (v3 + (2 : Int32)) (fun x317 => c_I (fX11_ratio 0 x316 x317 σ) (fun x320 σ318 => g_xs Ln xs (v3 + (1 : Int32)) (fun x321 => g_xs Ln xs (v3 + (2 : Int32)) (fun x322 => c_I (fX12_ratio 31 x321 x322 σ318) (fun x325 σ323 => if x320 = x325 then (k18 (v3 + (6 : Int32)) σ323) else (none)))))))
set_option maxRecDepth 100000 in
set_option maxHeartbeats 4000000 in
theorem tL_law_1071 (l : Launch) (E : EV) (b : Nat) {τ : Mm} (Ln : Nat) (xs : Nat → Int32) (k18 : Int32 → Mm → Option Mm) (hk18 : ∀ (v3 : Int32) (σ : Mm), k18 v3 σ = some τ → JL l E b Ln xs σ 18 [(0, .ref b), (1, .ref (e_a E 0 0)), (2, .ref (e_a E 31 0)), (3, .int v3)] []) (v3 : Int32) (σ : Mm) (h : fL_law_1071 Ln xs k18 v3 σ = some τ) : JL l E b Ln xs σ 1071 [(0, .ref b), (1, .ref (e_a E 0 0)), (2, .ref (e_a E 31 0)), (3, .int v3)] [] := by
  unfold fL_law_1071 at h
  refine JL_aload_n (pc := 1071) 1 dL_law_1071 rfl ?_
  refine JL_aload_n (pc := 1072) 0 dL_law_1072 rfl ?_
  refine JL_iload_n (pc := 1073) 3 dL_law_1073 rfl ?_
  refine JL_iconst (pc := 1074) (1 : Int32) dL_law_1074 (by decide) ?_
  refine JL_iadd (pc := 1075) dL_law_1075 ?_
  refine JL_xald (pc := 1076) dL_law_1076 h (fun x316 h => ?_)
  refine JL_aload_n (pc := 1077) 0 dL_law_1077 rfl ?_
  refine JL_iload_n (pc := 1078) 3 dL_law_1078 rfl ?_
  refine JL_iconst (pc := 1079) (2 : Int32) dL_law_1079 (by decide) ?_
  refine JL_iadd (pc := 1080) dL_law_1080 ?_
  refine JL_xald (pc := 1081) dL_law_1081 h (fun x317 h => ?_)
  obtain ⟨x320, σ318, hc319, h⟩ := cI_t h
  refine JL_cVi (pc := 1082) (ctX11_ratio l E 0 x316 x317 rfl σ hc319) dL_law_1082 mlL_121 mvX11_ratio rfl rfl (by decide) rfl (Nat.le_of_ble_eq_true rfl) ?_
  refine JL_aload_n (pc := 1085) 2 dL_law_1085 rfl ?_
  refine JL_aload_n (pc := 1086) 0 dL_law_1086 rfl ?_
  refine JL_iload_n (pc := 1087) 3 dL_law_1087 rfl ?_
  refine JL_iconst (pc := 1088) (1 : Int32) dL_law_1088 (by decide) ?_
  refine JL_iadd (pc := 1089) dL_law_1089 ?_
  refine JL_xald (pc := 1090) dL_law_1090 h (fun x321 h => ?_)
  refine JL_aload_n (pc := 1091) 0 dL_law_1091 rfl ?_
  refine JL_iload_n (pc := 1092) 3 dL_law_1092 rfl ?_
  refine JL_iconst (pc := 1093) (2 : Int32) dL_law_1093 (by decide) ?_
  refine JL_iadd (pc := 1094) dL_law_1094 ?_
  refine JL_xald (pc := 1095) dL_law_1095 h (fun x322 h => ?_)
  obtain ⟨x325, σ323, hc324, h⟩ := cI_t h
  refine JL_cVi (pc := 1096) (ctX12_ratio l E 31 x321 x322 rfl σ318 hc324) dL_law_1096 mlL_125 mvX12_ratio rfl rfl (by decide) rfl (Nat.le_of_ble_eq_true rfl) ?_
  refine JL_icmp_eq (pc := 1099) 1802 dL_law_1099 (by decide) h (fun h => ?_) (fun h => ?_)
  · refine JL_iinc (pc := 1802) (L' := [(3, .int (v3 + (6 : Int32))), (0, .ref b), (1, .ref (e_a E 0 0)), (2, .ref (e_a E 31 0))]) 3 (v3 + (6 : Int32)) dL_law_1802 rfl (by rfl) (by decide) rfl ?_
    refine JL_goto (pc := 1805) 18 dL_law_1805 (by decide) ?_
    refine JL_sub (L' := [(0, .ref b), (1, .ref (e_a E 0 0)), (2, .ref (e_a E 31 0)), (3, .int (v3 + (6 : Int32)))]) [1, 2, 3, 0] rfl ?_
    exact hk18 (v3 + (6 : Int32)) σ323 h
  · refine JL_iconst (pc := 1102) (0 : Int32) dL_law_1102 (by decide) ?_
    cases h
def fL_law_1104 (Ln : Nat) (xs : Nat → Int32) (k18 : Int32 → Mm → Option Mm) (v3 : Int32) (σ : Mm) : Option Mm := c_I (fX11_locked 0 σ) (fun x328 σ326 => c_I (fX12_locked 31 σ326) (fun x331 σ329 => if x328 = x331 then (k18 (v3 + (6 : Int32)) σ329) else (none)))
set_option maxRecDepth 100000 in
set_option maxHeartbeats 4000000 in
theorem tL_law_1104 (l : Launch) (E : EV) (b : Nat) {τ : Mm} (Ln : Nat) (xs : Nat → Int32) (k18 : Int32 → Mm → Option Mm) (hk18 : ∀ (v3 : Int32) (σ : Mm), k18 v3 σ = some τ → JL l E b Ln xs σ 18 [(0, .ref b), (1, .ref (e_a E 0 0)), (2, .ref (e_a E 31 0)), (3, .int v3)] []) (v3 : Int32) (σ : Mm) (h : fL_law_1104 Ln xs k18 v3 σ = some τ) : JL l E b Ln xs σ 1104 [(0, .ref b), (1, .ref (e_a E 0 0)), (2, .ref (e_a E 31 0)), (3, .int v3)] [] := by
  unfold fL_law_1104 at h
  refine JL_aload_n (pc := 1104) 1 dL_law_1104 rfl ?_
  obtain ⟨x328, σ326, hc327, h⟩ := cI_t h
  refine JL_cVi (pc := 1105) (ctX11_locked l E 0 rfl σ hc327) dL_law_1105 mlL_126 mvX11_locked rfl rfl (by decide) rfl (Nat.le_of_ble_eq_true rfl) ?_
  refine JL_aload_n (pc := 1108) 2 dL_law_1108 rfl ?_
  obtain ⟨x331, σ329, hc330, h⟩ := cI_t h
  refine JL_cVi (pc := 1109) (ctX12_locked l E 31 rfl σ326 hc330) dL_law_1109 mlL_129 mvX12_locked rfl rfl (by decide) rfl (Nat.le_of_ble_eq_true rfl) ?_
  refine JL_icmp_eq (pc := 1112) 1802 dL_law_1112 (by decide) h (fun h => ?_) (fun h => ?_)
  · refine JL_iinc (pc := 1802) (L' := [(3, .int (v3 + (6 : Int32))), (0, .ref b), (1, .ref (e_a E 0 0)), (2, .ref (e_a E 31 0))]) 3 (v3 + (6 : Int32)) dL_law_1802 rfl (by rfl) (by decide) rfl ?_
    refine JL_goto (pc := 1805) 18 dL_law_1805 (by decide) ?_
    refine JL_sub (L' := [(0, .ref b), (1, .ref (e_a E 0 0)), (2, .ref (e_a E 31 0)), (3, .int (v3 + (6 : Int32)))]) [1, 2, 3, 0] rfl ?_
    exact hk18 (v3 + (6 : Int32)) σ329 h
  · refine JL_iconst (pc := 1115) (0 : Int32) dL_law_1115 (by decide) ?_
    cases h
def fL_law_1117 (Ln : Nat) (xs : Nat → Int32) (k18 : Int32 → Mm → Option Mm) (v3 : Int32) (σ : Mm) : Option Mm := g_xs Ln xs (v3 + (1 : Int32)) (fun x332 => c_L (fX11_common 0 x332 σ) (fun x335 σ333 => g_xs Ln xs (v3 + (1 : Int32)) (fun x336 => c_L (fX12_common 31 x336 σ333) (fun x339 σ337 => if (lg_cmp x335 x339) = 0 then (k18 (v3 + (6 : Int32)) σ337) else (none)))))
set_option maxRecDepth 100000 in
set_option maxHeartbeats 4000000 in
theorem tL_law_1117 (l : Launch) (E : EV) (b : Nat) {τ : Mm} (Ln : Nat) (xs : Nat → Int32) (k18 : Int32 → Mm → Option Mm) (hk18 : ∀ (v3 : Int32) (σ : Mm), k18 v3 σ = some τ → JL l E b Ln xs σ 18 [(0, .ref b), (1, .ref (e_a E 0 0)), (2, .ref (e_a E 31 0)), (3, .int v3)] []) (v3 : Int32) (σ : Mm) (h : fL_law_1117 Ln xs k18 v3 σ = some τ) : JL l E b Ln xs σ 1117 [(0, .ref b), (1, .ref (e_a E 0 0)), (2, .ref (e_a E 31 0)), (3, .int v3)] [] := by
  unfold fL_law_1117 at h
  refine JL_aload_n (pc := 1117) 1 dL_law_1117 rfl ?_
  refine JL_aload_n (pc := 1118) 0 dL_law_1118 rfl ?_
  refine JL_iload_n (pc := 1119) 3 dL_law_1119 rfl ?_
  refine JL_iconst (pc := 1120) (1 : Int32) dL_law_1120 (by decide) ?_
  refine JL_iadd (pc := 1121) dL_law_1121 ?_
  refine JL_xald (pc := 1122) dL_law_1122 h (fun x332 h => ?_)
  obtain ⟨x335, σ333, hc334, h⟩ := cL_t h
  refine JL_cVl (pc := 1123) (ctX11_common l E 0 x332 rfl σ hc334) dL_law_1123 mlL_130 mvX11_common rfl rfl (by decide) rfl (Nat.le_of_ble_eq_true rfl) ?_
  refine JL_aload_n (pc := 1126) 2 dL_law_1126 rfl ?_
  refine JL_aload_n (pc := 1127) 0 dL_law_1127 rfl ?_
  refine JL_iload_n (pc := 1128) 3 dL_law_1128 rfl ?_
  refine JL_iconst (pc := 1129) (1 : Int32) dL_law_1129 (by decide) ?_
  refine JL_iadd (pc := 1130) dL_law_1130 ?_
  refine JL_xald (pc := 1131) dL_law_1131 h (fun x336 h => ?_)
  obtain ⟨x339, σ337, hc338, h⟩ := cL_t h
  refine JL_cVl (pc := 1132) (ctX12_common l E 31 x336 rfl σ333 hc338) dL_law_1132 mlL_134 mvX12_common rfl rfl (by decide) rfl (Nat.le_of_ble_eq_true rfl) ?_
  refine JL_lcmp (pc := 1135) dL_law_1135 ?_
  refine JL_if_eq (pc := 1136) 1802 dL_law_1136 (by decide) h (fun h => ?_) (fun h => ?_)
  · refine JL_iinc (pc := 1802) (L' := [(3, .int (v3 + (6 : Int32))), (0, .ref b), (1, .ref (e_a E 0 0)), (2, .ref (e_a E 31 0))]) 3 (v3 + (6 : Int32)) dL_law_1802 rfl (by rfl) (by decide) rfl ?_
    refine JL_goto (pc := 1805) 18 dL_law_1805 (by decide) ?_
    refine JL_sub (L' := [(0, .ref b), (1, .ref (e_a E 0 0)), (2, .ref (e_a E 31 0)), (3, .int (v3 + (6 : Int32)))]) [1, 2, 3, 0] rfl ?_
    exact hk18 (v3 + (6 : Int32)) σ337 h
  · refine JL_iconst (pc := 1139) (0 : Int32) dL_law_1139 (by decide) ?_
    cases h
def fL_law_1141 (Ln : Nat) (xs : Nat → Int32) (k18 : Int32 → Mm → Option Mm) (v3 : Int32) (σ : Mm) : Option Mm := g_xs Ln xs (v3 + (1 : Int32)) (fun x340 => g_xs Ln xs (v3 + (2 : Int32)) (fun x341 => c_I (fX11_sway 0 x340 x341 σ) (fun x344 σ342 => g_xs Ln xs (v3 + (1 : Int32)) (fun x345 => g_xs Ln xs (v3 + (2 : Int32)) (fun x346 => c_I (fX12_sway 31 x345 x346 σ342) (fun x349 σ347 => if x344 = x349 then (k18 (v3 + (6 : Int32)) σ347) else (none)))))))
set_option maxRecDepth 100000 in
set_option maxHeartbeats 4000000 in
theorem tL_law_1141 (l : Launch) (E : EV) (b : Nat) {τ : Mm} (Ln : Nat) (xs : Nat → Int32) (k18 : Int32 → Mm → Option Mm) (hk18 : ∀ (v3 : Int32) (σ : Mm), k18 v3 σ = some τ → JL l E b Ln xs σ 18 [(0, .ref b), (1, .ref (e_a E 0 0)), (2, .ref (e_a E 31 0)), (3, .int v3)] []) (v3 : Int32) (σ : Mm) (h : fL_law_1141 Ln xs k18 v3 σ = some τ) : JL l E b Ln xs σ 1141 [(0, .ref b), (1, .ref (e_a E 0 0)), (2, .ref (e_a E 31 0)), (3, .int v3)] [] := by
  unfold fL_law_1141 at h
  refine JL_aload_n (pc := 1141) 1 dL_law_1141 rfl ?_
  refine JL_aload_n (pc := 1142) 0 dL_law_1142 rfl ?_
  refine JL_iload_n (pc := 1143) 3 dL_law_1143 rfl ?_
  refine JL_iconst (pc := 1144) (1 : Int32) dL_law_1144 (by decide) ?_
  refine JL_iadd (pc := 1145) dL_law_1145 ?_
  refine JL_xald (pc := 1146) dL_law_1146 h (fun x340 h => ?_)
  refine JL_aload_n (pc := 1147) 0 dL_law_1147 rfl ?_
  refine JL_iload_n (pc := 1148) 3 dL_law_1148 rfl ?_
  refine JL_iconst (pc := 1149) (2 : Int32) dL_law_1149 (by decide) ?_
  refine JL_iadd (pc := 1150) dL_law_1150 ?_
  refine JL_xald (pc := 1151) dL_law_1151 h (fun x341 h => ?_)
  obtain ⟨x344, σ342, hc343, h⟩ := cI_t h
  refine JL_cVi (pc := 1152) (ctX11_sway l E 0 x340 x341 rfl σ hc343) dL_law_1152 mlL_135 mvX11_sway rfl rfl (by decide) rfl (Nat.le_of_ble_eq_true rfl) ?_
  refine JL_aload_n (pc := 1155) 2 dL_law_1155 rfl ?_
  refine JL_aload_n (pc := 1156) 0 dL_law_1156 rfl ?_
  refine JL_iload_n (pc := 1157) 3 dL_law_1157 rfl ?_
  refine JL_iconst (pc := 1158) (1 : Int32) dL_law_1158 (by decide) ?_
  refine JL_iadd (pc := 1159) dL_law_1159 ?_
  refine JL_xald (pc := 1160) dL_law_1160 h (fun x345 h => ?_)
  refine JL_aload_n (pc := 1161) 0 dL_law_1161 rfl ?_
  refine JL_iload_n (pc := 1162) 3 dL_law_1162 rfl ?_
  refine JL_iconst (pc := 1163) (2 : Int32) dL_law_1163 (by decide) ?_
  refine JL_iadd (pc := 1164) dL_law_1164 ?_
  refine JL_xald (pc := 1165) dL_law_1165 h (fun x346 h => ?_)
  obtain ⟨x349, σ347, hc348, h⟩ := cI_t h
  refine JL_cVi (pc := 1166) (ctX12_sway l E 31 x345 x346 rfl σ342 hc348) dL_law_1166 mlL_138 mvX12_sway rfl rfl (by decide) rfl (Nat.le_of_ble_eq_true rfl) ?_
  refine JL_icmp_eq (pc := 1169) 1802 dL_law_1169 (by decide) h (fun h => ?_) (fun h => ?_)
  · refine JL_iinc (pc := 1802) (L' := [(3, .int (v3 + (6 : Int32))), (0, .ref b), (1, .ref (e_a E 0 0)), (2, .ref (e_a E 31 0))]) 3 (v3 + (6 : Int32)) dL_law_1802 rfl (by rfl) (by decide) rfl ?_
    refine JL_goto (pc := 1805) 18 dL_law_1805 (by decide) ?_
    refine JL_sub (L' := [(0, .ref b), (1, .ref (e_a E 0 0)), (2, .ref (e_a E 31 0)), (3, .int (v3 + (6 : Int32)))]) [1, 2, 3, 0] rfl ?_
    exact hk18 (v3 + (6 : Int32)) σ347 h
  · refine JL_iconst (pc := 1172) (0 : Int32) dL_law_1172 (by decide) ?_
    cases h
def fL_law_1174 (Ln : Nat) (xs : Nat → Int32) (k18 : Int32 → Mm → Option Mm) (v3 : Int32) (σ : Mm) : Option Mm := g_xs Ln xs (v3 + (1 : Int32)) (fun x350 => g_xs Ln xs (v3 + (2 : Int32)) (fun x351 => c_I (fX11_points 0 x350 x351 σ) (fun x354 σ352 => g_xs Ln xs (v3 + (1 : Int32)) (fun x355 => g_xs Ln xs (v3 + (2 : Int32)) (fun x356 => c_I (fX12_points 31 x355 x356 σ352) (fun x359 σ357 => if x354 = x359 then (k18 (v3 + (6 : Int32)) σ357) else (none)))))))
set_option maxRecDepth 100000 in
set_option maxHeartbeats 4000000 in
theorem tL_law_1174 (l : Launch) (E : EV) (b : Nat) {τ : Mm} (Ln : Nat) (xs : Nat → Int32) (k18 : Int32 → Mm → Option Mm) (hk18 : ∀ (v3 : Int32) (σ : Mm), k18 v3 σ = some τ → JL l E b Ln xs σ 18 [(0, .ref b), (1, .ref (e_a E 0 0)), (2, .ref (e_a E 31 0)), (3, .int v3)] []) (v3 : Int32) (σ : Mm) (h : fL_law_1174 Ln xs k18 v3 σ = some τ) : JL l E b Ln xs σ 1174 [(0, .ref b), (1, .ref (e_a E 0 0)), (2, .ref (e_a E 31 0)), (3, .int v3)] [] := by
  unfold fL_law_1174 at h
  refine JL_aload_n (pc := 1174) 1 dL_law_1174 rfl ?_
  refine JL_aload_n (pc := 1175) 0 dL_law_1175 rfl ?_
  refine JL_iload_n (pc := 1176) 3 dL_law_1176 rfl ?_
  refine JL_iconst (pc := 1177) (1 : Int32) dL_law_1177 (by decide) ?_
  refine JL_iadd (pc := 1178) dL_law_1178 ?_
  refine JL_xald (pc := 1179) dL_law_1179 h (fun x350 h => ?_)
  refine JL_aload_n (pc := 1180) 0 dL_law_1180 rfl ?_
  refine JL_iload_n (pc := 1181) 3 dL_law_1181 rfl ?_
  refine JL_iconst (pc := 1182) (2 : Int32) dL_law_1182 (by decide) ?_
  refine JL_iadd (pc := 1183) dL_law_1183 ?_
  refine JL_xald (pc := 1184) dL_law_1184 h (fun x351 h => ?_)
  obtain ⟨x354, σ352, hc353, h⟩ := cI_t h
  refine JL_cVi (pc := 1185) (ctX11_points l E 0 x350 x351 rfl σ hc353) dL_law_1185 mlL_139 mvX11_points rfl rfl (by decide) rfl (Nat.le_of_ble_eq_true rfl) ?_
  refine JL_aload_n (pc := 1188) 2 dL_law_1188 rfl ?_
  refine JL_aload_n (pc := 1189) 0 dL_law_1189 rfl ?_
  refine JL_iload_n (pc := 1190) 3 dL_law_1190 rfl ?_
  refine JL_iconst (pc := 1191) (1 : Int32) dL_law_1191 (by decide) ?_
  refine JL_iadd (pc := 1192) dL_law_1192 ?_
  refine JL_xald (pc := 1193) dL_law_1193 h (fun x355 h => ?_)
  refine JL_aload_n (pc := 1194) 0 dL_law_1194 rfl ?_
  refine JL_iload_n (pc := 1195) 3 dL_law_1195 rfl ?_
  refine JL_iconst (pc := 1196) (2 : Int32) dL_law_1196 (by decide) ?_
  refine JL_iadd (pc := 1197) dL_law_1197 ?_
  refine JL_xald (pc := 1198) dL_law_1198 h (fun x356 h => ?_)
  obtain ⟨x359, σ357, hc358, h⟩ := cI_t h
  refine JL_cVi (pc := 1199) (ctX12_points l E 31 x355 x356 rfl σ352 hc358) dL_law_1199 mlL_142 mvX12_points rfl rfl (by decide) rfl (Nat.le_of_ble_eq_true rfl) ?_
  refine JL_icmp_eq (pc := 1202) 1802 dL_law_1202 (by decide) h (fun h => ?_) (fun h => ?_)
  · refine JL_iinc (pc := 1802) (L' := [(3, .int (v3 + (6 : Int32))), (0, .ref b), (1, .ref (e_a E 0 0)), (2, .ref (e_a E 31 0))]) 3 (v3 + (6 : Int32)) dL_law_1802 rfl (by rfl) (by decide) rfl ?_
    refine JL_goto (pc := 1805) 18 dL_law_1805 (by decide) ?_
    refine JL_sub (L' := [(0, .ref b), (1, .ref (e_a E 0 0)), (2, .ref (e_a E 31 0)), (3, .int (v3 + (6 : Int32)))]) [1, 2, 3, 0] rfl ?_
    exact hk18 (v3 + (6 : Int32)) σ357 h
  · refine JL_iconst (pc := 1205) (0 : Int32) dL_law_1205 (by decide) ?_
    cases h
def fL_law_1207 (Ln : Nat) (xs : Nat → Int32) (k18 : Int32 → Mm → Option Mm) (v3 : Int32) (σ : Mm) : Option Mm := g_xs Ln xs (v3 + (1 : Int32)) (fun x360 => c_I (fX11_rights 0 x360 σ) (fun x363 σ361 => g_xs Ln xs (v3 + (1 : Int32)) (fun x364 => c_I (fX12_rights 31 x364 σ361) (fun x367 σ365 => if x363 = x367 then (k18 (v3 + (6 : Int32)) σ365) else (none)))))
set_option maxRecDepth 100000 in
set_option maxHeartbeats 4000000 in
theorem tL_law_1207 (l : Launch) (E : EV) (b : Nat) {τ : Mm} (Ln : Nat) (xs : Nat → Int32) (k18 : Int32 → Mm → Option Mm) (hk18 : ∀ (v3 : Int32) (σ : Mm), k18 v3 σ = some τ → JL l E b Ln xs σ 18 [(0, .ref b), (1, .ref (e_a E 0 0)), (2, .ref (e_a E 31 0)), (3, .int v3)] []) (v3 : Int32) (σ : Mm) (h : fL_law_1207 Ln xs k18 v3 σ = some τ) : JL l E b Ln xs σ 1207 [(0, .ref b), (1, .ref (e_a E 0 0)), (2, .ref (e_a E 31 0)), (3, .int v3)] [] := by
  unfold fL_law_1207 at h
  refine JL_aload_n (pc := 1207) 1 dL_law_1207 rfl ?_
  refine JL_aload_n (pc := 1208) 0 dL_law_1208 rfl ?_
  refine JL_iload_n (pc := 1209) 3 dL_law_1209 rfl ?_
  refine JL_iconst (pc := 1210) (1 : Int32) dL_law_1210 (by decide) ?_
  refine JL_iadd (pc := 1211) dL_law_1211 ?_
  refine JL_xald (pc := 1212) dL_law_1212 h (fun x360 h => ?_)
  obtain ⟨x363, σ361, hc362, h⟩ := cI_t h
  refine JL_cVi (pc := 1213) (ctX11_rights l E 0 x360 rfl σ hc362) dL_law_1213 mlL_143 mvX11_rights rfl rfl (by decide) rfl (Nat.le_of_ble_eq_true rfl) ?_
  refine JL_aload_n (pc := 1216) 2 dL_law_1216 rfl ?_
  refine JL_aload_n (pc := 1217) 0 dL_law_1217 rfl ?_
  refine JL_iload_n (pc := 1218) 3 dL_law_1218 rfl ?_
  refine JL_iconst (pc := 1219) (1 : Int32) dL_law_1219 (by decide) ?_
  refine JL_iadd (pc := 1220) dL_law_1220 ?_
  refine JL_xald (pc := 1221) dL_law_1221 h (fun x364 h => ?_)
  obtain ⟨x367, σ365, hc366, h⟩ := cI_t h
  refine JL_cVi (pc := 1222) (ctX12_rights l E 31 x364 rfl σ361 hc366) dL_law_1222 mlL_146 mvX12_rights rfl rfl (by decide) rfl (Nat.le_of_ble_eq_true rfl) ?_
  refine JL_icmp_eq (pc := 1225) 1802 dL_law_1225 (by decide) h (fun h => ?_) (fun h => ?_)
  · refine JL_iinc (pc := 1802) (L' := [(3, .int (v3 + (6 : Int32))), (0, .ref b), (1, .ref (e_a E 0 0)), (2, .ref (e_a E 31 0))]) 3 (v3 + (6 : Int32)) dL_law_1802 rfl (by rfl) (by decide) rfl ?_
    refine JL_goto (pc := 1805) 18 dL_law_1805 (by decide) ?_
    refine JL_sub (L' := [(0, .ref b), (1, .ref (e_a E 0 0)), (2, .ref (e_a E 31 0)), (3, .int (v3 + (6 : Int32)))]) [1, 2, 3, 0] rfl ?_
    exact hk18 (v3 + (6 : Int32)) σ365 h
  · refine JL_iconst (pc := 1228) (0 : Int32) dL_law_1228 (by decide) ?_
    cases h
def fL_law_1230 (Ln : Nat) (xs : Nat → Int32) (k18 : Int32 → Mm → Option Mm) (v3 : Int32) (σ : Mm) : Option Mm := g_xs Ln xs (v3 + (1 : Int32)) (fun x368 => c_I (fX11_again 0 x368 σ) (fun x371 σ369 => g_xs Ln xs (v3 + (1 : Int32)) (fun x372 => c_I (fX12_again 31 x372 σ369) (fun x375 σ373 => if x371 = x375 then (k18 (v3 + (6 : Int32)) σ373) else (none)))))
set_option maxRecDepth 100000 in
set_option maxHeartbeats 4000000 in
theorem tL_law_1230 (l : Launch) (E : EV) (b : Nat) {τ : Mm} (Ln : Nat) (xs : Nat → Int32) (k18 : Int32 → Mm → Option Mm) (hk18 : ∀ (v3 : Int32) (σ : Mm), k18 v3 σ = some τ → JL l E b Ln xs σ 18 [(0, .ref b), (1, .ref (e_a E 0 0)), (2, .ref (e_a E 31 0)), (3, .int v3)] []) (v3 : Int32) (σ : Mm) (h : fL_law_1230 Ln xs k18 v3 σ = some τ) : JL l E b Ln xs σ 1230 [(0, .ref b), (1, .ref (e_a E 0 0)), (2, .ref (e_a E 31 0)), (3, .int v3)] [] := by
  unfold fL_law_1230 at h
  refine JL_aload_n (pc := 1230) 1 dL_law_1230 rfl ?_
  refine JL_aload_n (pc := 1231) 0 dL_law_1231 rfl ?_
  refine JL_iload_n (pc := 1232) 3 dL_law_1232 rfl ?_
  refine JL_iconst (pc := 1233) (1 : Int32) dL_law_1233 (by decide) ?_
  refine JL_iadd (pc := 1234) dL_law_1234 ?_
  refine JL_xald (pc := 1235) dL_law_1235 h (fun x368 h => ?_)
  obtain ⟨x371, σ369, hc370, h⟩ := cI_t h
  refine JL_cVi (pc := 1236) (ctX11_again l E 0 x368 rfl σ hc370) dL_law_1236 mlL_147 mvX11_again rfl rfl (by decide) rfl (Nat.le_of_ble_eq_true rfl) ?_
  refine JL_aload_n (pc := 1239) 2 dL_law_1239 rfl ?_
  refine JL_aload_n (pc := 1240) 0 dL_law_1240 rfl ?_
  refine JL_iload_n (pc := 1241) 3 dL_law_1241 rfl ?_
  refine JL_iconst (pc := 1242) (1 : Int32) dL_law_1242 (by decide) ?_
  refine JL_iadd (pc := 1243) dL_law_1243 ?_
  refine JL_xald (pc := 1244) dL_law_1244 h (fun x372 h => ?_)
  obtain ⟨x375, σ373, hc374, h⟩ := cI_t h
  refine JL_cVi (pc := 1245) (ctX12_again l E 31 x372 rfl σ369 hc374) dL_law_1245 mlL_150 mvX12_again rfl rfl (by decide) rfl (Nat.le_of_ble_eq_true rfl) ?_
  refine JL_icmp_eq (pc := 1248) 1802 dL_law_1248 (by decide) h (fun h => ?_) (fun h => ?_)
  · refine JL_iinc (pc := 1802) (L' := [(3, .int (v3 + (6 : Int32))), (0, .ref b), (1, .ref (e_a E 0 0)), (2, .ref (e_a E 31 0))]) 3 (v3 + (6 : Int32)) dL_law_1802 rfl (by rfl) (by decide) rfl ?_
    refine JL_goto (pc := 1805) 18 dL_law_1805 (by decide) ?_
    refine JL_sub (L' := [(0, .ref b), (1, .ref (e_a E 0 0)), (2, .ref (e_a E 31 0)), (3, .int (v3 + (6 : Int32)))]) [1, 2, 3, 0] rfl ?_
    exact hk18 (v3 + (6 : Int32)) σ373 h
  · refine JL_iconst (pc := 1251) (0 : Int32) dL_law_1251 (by decide) ?_
    cases h
def fL_law_1253 (Ln : Nat) (xs : Nat → Int32) (k18 : Int32 → Mm → Option Mm) (v3 : Int32) (σ : Mm) : Option Mm := g_xs Ln xs (v3 + (1 : Int32)) (fun x376 => g_xs Ln xs (v3 + (2 : Int32)) (fun x377 => c_I (fX11_strikes 0 x376 x377 σ) (fun x380 σ378 => g_xs Ln xs (v3 + (1 : Int32)) (fun x381 => g_xs Ln xs (v3 + (2 : Int32)) (fun x382 => c_I (fX12_strikes 31 x381 x382 σ378) (fun x385 σ383 => if x380 = x385 then (k18 (v3 + (6 : Int32)) σ383) else (none)))))))
set_option maxRecDepth 100000 in
set_option maxHeartbeats 4000000 in
theorem tL_law_1253 (l : Launch) (E : EV) (b : Nat) {τ : Mm} (Ln : Nat) (xs : Nat → Int32) (k18 : Int32 → Mm → Option Mm) (hk18 : ∀ (v3 : Int32) (σ : Mm), k18 v3 σ = some τ → JL l E b Ln xs σ 18 [(0, .ref b), (1, .ref (e_a E 0 0)), (2, .ref (e_a E 31 0)), (3, .int v3)] []) (v3 : Int32) (σ : Mm) (h : fL_law_1253 Ln xs k18 v3 σ = some τ) : JL l E b Ln xs σ 1253 [(0, .ref b), (1, .ref (e_a E 0 0)), (2, .ref (e_a E 31 0)), (3, .int v3)] [] := by
  unfold fL_law_1253 at h
  refine JL_aload_n (pc := 1253) 1 dL_law_1253 rfl ?_
  refine JL_aload_n (pc := 1254) 0 dL_law_1254 rfl ?_
  refine JL_iload_n (pc := 1255) 3 dL_law_1255 rfl ?_
  refine JL_iconst (pc := 1256) (1 : Int32) dL_law_1256 (by decide) ?_
  refine JL_iadd (pc := 1257) dL_law_1257 ?_
  refine JL_xald (pc := 1258) dL_law_1258 h (fun x376 h => ?_)
  refine JL_aload_n (pc := 1259) 0 dL_law_1259 rfl ?_
  refine JL_iload_n (pc := 1260) 3 dL_law_1260 rfl ?_
  refine JL_iconst (pc := 1261) (2 : Int32) dL_law_1261 (by decide) ?_
  refine JL_iadd (pc := 1262) dL_law_1262 ?_
  refine JL_xald (pc := 1263) dL_law_1263 h (fun x377 h => ?_)
  obtain ⟨x380, σ378, hc379, h⟩ := cI_t h
  refine JL_cVi (pc := 1264) (ctX11_strikes l E 0 x376 x377 rfl σ hc379) dL_law_1264 mlL_151 mvX11_strikes rfl rfl (by decide) rfl (Nat.le_of_ble_eq_true rfl) ?_
  refine JL_aload_n (pc := 1267) 2 dL_law_1267 rfl ?_
  refine JL_aload_n (pc := 1268) 0 dL_law_1268 rfl ?_
  refine JL_iload_n (pc := 1269) 3 dL_law_1269 rfl ?_
  refine JL_iconst (pc := 1270) (1 : Int32) dL_law_1270 (by decide) ?_
  refine JL_iadd (pc := 1271) dL_law_1271 ?_
  refine JL_xald (pc := 1272) dL_law_1272 h (fun x381 h => ?_)
  refine JL_aload_n (pc := 1273) 0 dL_law_1273 rfl ?_
  refine JL_iload_n (pc := 1274) 3 dL_law_1274 rfl ?_
  refine JL_iconst (pc := 1275) (2 : Int32) dL_law_1275 (by decide) ?_
  refine JL_iadd (pc := 1276) dL_law_1276 ?_
  refine JL_xald (pc := 1277) dL_law_1277 h (fun x382 h => ?_)
  obtain ⟨x385, σ383, hc384, h⟩ := cI_t h
  refine JL_cVi (pc := 1278) (ctX12_strikes l E 31 x381 x382 rfl σ378 hc384) dL_law_1278 mlL_154 mvX12_strikes rfl rfl (by decide) rfl (Nat.le_of_ble_eq_true rfl) ?_
  refine JL_icmp_eq (pc := 1281) 1802 dL_law_1281 (by decide) h (fun h => ?_) (fun h => ?_)
  · refine JL_iinc (pc := 1802) (L' := [(3, .int (v3 + (6 : Int32))), (0, .ref b), (1, .ref (e_a E 0 0)), (2, .ref (e_a E 31 0))]) 3 (v3 + (6 : Int32)) dL_law_1802 rfl (by rfl) (by decide) rfl ?_
    refine JL_goto (pc := 1805) 18 dL_law_1805 (by decide) ?_
    refine JL_sub (L' := [(0, .ref b), (1, .ref (e_a E 0 0)), (2, .ref (e_a E 31 0)), (3, .int (v3 + (6 : Int32)))]) [1, 2, 3, 0] rfl ?_
    exact hk18 (v3 + (6 : Int32)) σ383 h
  · refine JL_iconst (pc := 1284) (0 : Int32) dL_law_1284 (by decide) ?_
    cases h
def fL_law_1286 (Ln : Nat) (xs : Nat → Int32) (k18 : Int32 → Mm → Option Mm) (v3 : Int32) (σ : Mm) : Option Mm := g_xs Ln xs (v3 + (1 : Int32)) (fun x386 => g_xs Ln xs (v3 + (2 : Int32)) (fun x387 => c_I (fX11_bell 0 x386 x387 σ) (fun x390 σ388 => g_xs Ln xs (v3 + (1 : Int32)) (fun x391 => g_xs Ln xs (v3 + (2 : Int32)) (fun x392 => c_I (fX12_bell 31 x391 x392 σ388) (fun x395 σ393 => if x390 = x395 then (k18 (v3 + (6 : Int32)) σ393) else (none)))))))
set_option maxRecDepth 100000 in
set_option maxHeartbeats 4000000 in
theorem tL_law_1286 (l : Launch) (E : EV) (b : Nat) {τ : Mm} (Ln : Nat) (xs : Nat → Int32) (k18 : Int32 → Mm → Option Mm) (hk18 : ∀ (v3 : Int32) (σ : Mm), k18 v3 σ = some τ → JL l E b Ln xs σ 18 [(0, .ref b), (1, .ref (e_a E 0 0)), (2, .ref (e_a E 31 0)), (3, .int v3)] []) (v3 : Int32) (σ : Mm) (h : fL_law_1286 Ln xs k18 v3 σ = some τ) : JL l E b Ln xs σ 1286 [(0, .ref b), (1, .ref (e_a E 0 0)), (2, .ref (e_a E 31 0)), (3, .int v3)] [] := by
  unfold fL_law_1286 at h
  refine JL_aload_n (pc := 1286) 1 dL_law_1286 rfl ?_
  refine JL_aload_n (pc := 1287) 0 dL_law_1287 rfl ?_
  refine JL_iload_n (pc := 1288) 3 dL_law_1288 rfl ?_
  refine JL_iconst (pc := 1289) (1 : Int32) dL_law_1289 (by decide) ?_
  refine JL_iadd (pc := 1290) dL_law_1290 ?_
  refine JL_xald (pc := 1291) dL_law_1291 h (fun x386 h => ?_)
  refine JL_aload_n (pc := 1292) 0 dL_law_1292 rfl ?_
  refine JL_iload_n (pc := 1293) 3 dL_law_1293 rfl ?_
  refine JL_iconst (pc := 1294) (2 : Int32) dL_law_1294 (by decide) ?_
  refine JL_iadd (pc := 1295) dL_law_1295 ?_
  refine JL_xald (pc := 1296) dL_law_1296 h (fun x387 h => ?_)
  obtain ⟨x390, σ388, hc389, h⟩ := cI_t h
  refine JL_cVi (pc := 1297) (ctX11_bell l E 0 x386 x387 rfl σ hc389) dL_law_1297 mlL_155 mvX11_bell rfl rfl (by decide) rfl (Nat.le_of_ble_eq_true rfl) ?_
  refine JL_aload_n (pc := 1300) 2 dL_law_1300 rfl ?_
  refine JL_aload_n (pc := 1301) 0 dL_law_1301 rfl ?_
  refine JL_iload_n (pc := 1302) 3 dL_law_1302 rfl ?_
  refine JL_iconst (pc := 1303) (1 : Int32) dL_law_1303 (by decide) ?_
  refine JL_iadd (pc := 1304) dL_law_1304 ?_
  refine JL_xald (pc := 1305) dL_law_1305 h (fun x391 h => ?_)
  refine JL_aload_n (pc := 1306) 0 dL_law_1306 rfl ?_
  refine JL_iload_n (pc := 1307) 3 dL_law_1307 rfl ?_
  refine JL_iconst (pc := 1308) (2 : Int32) dL_law_1308 (by decide) ?_
  refine JL_iadd (pc := 1309) dL_law_1309 ?_
  refine JL_xald (pc := 1310) dL_law_1310 h (fun x392 h => ?_)
  obtain ⟨x395, σ393, hc394, h⟩ := cI_t h
  refine JL_cVi (pc := 1311) (ctX12_bell l E 31 x391 x392 rfl σ388 hc394) dL_law_1311 mlL_158 mvX12_bell rfl rfl (by decide) rfl (Nat.le_of_ble_eq_true rfl) ?_
  refine JL_icmp_eq (pc := 1314) 1802 dL_law_1314 (by decide) h (fun h => ?_) (fun h => ?_)
  · refine JL_iinc (pc := 1802) (L' := [(3, .int (v3 + (6 : Int32))), (0, .ref b), (1, .ref (e_a E 0 0)), (2, .ref (e_a E 31 0))]) 3 (v3 + (6 : Int32)) dL_law_1802 rfl (by rfl) (by decide) rfl ?_
    refine JL_goto (pc := 1805) 18 dL_law_1805 (by decide) ?_
    refine JL_sub (L' := [(0, .ref b), (1, .ref (e_a E 0 0)), (2, .ref (e_a E 31 0)), (3, .int (v3 + (6 : Int32)))]) [1, 2, 3, 0] rfl ?_
    exact hk18 (v3 + (6 : Int32)) σ393 h
  · refine JL_iconst (pc := 1317) (0 : Int32) dL_law_1317 (by decide) ?_
    cases h
def fL_law_1319 (Ln : Nat) (xs : Nat → Int32) (k18 : Int32 → Mm → Option Mm) (v3 : Int32) (σ : Mm) : Option Mm := g_xs Ln xs (v3 + (1 : Int32)) (fun x396 => g_xs Ln xs (v3 + (2 : Int32)) (fun x397 => c_I (fX11_wrong 0 x396 x397 σ) (fun x400 σ398 => g_xs Ln xs (v3 + (1 : Int32)) (fun x401 => g_xs Ln xs (v3 + (2 : Int32)) (fun x402 => c_I (fX12_wrong 31 x401 x402 σ398) (fun x405 σ403 => if x400 = x405 then (k18 (v3 + (6 : Int32)) σ403) else (none)))))))
set_option maxRecDepth 100000 in
set_option maxHeartbeats 4000000 in
theorem tL_law_1319 (l : Launch) (E : EV) (b : Nat) {τ : Mm} (Ln : Nat) (xs : Nat → Int32) (k18 : Int32 → Mm → Option Mm) (hk18 : ∀ (v3 : Int32) (σ : Mm), k18 v3 σ = some τ → JL l E b Ln xs σ 18 [(0, .ref b), (1, .ref (e_a E 0 0)), (2, .ref (e_a E 31 0)), (3, .int v3)] []) (v3 : Int32) (σ : Mm) (h : fL_law_1319 Ln xs k18 v3 σ = some τ) : JL l E b Ln xs σ 1319 [(0, .ref b), (1, .ref (e_a E 0 0)), (2, .ref (e_a E 31 0)), (3, .int v3)] [] := by
  unfold fL_law_1319 at h
  refine JL_aload_n (pc := 1319) 1 dL_law_1319 rfl ?_
  refine JL_aload_n (pc := 1320) 0 dL_law_1320 rfl ?_
  refine JL_iload_n (pc := 1321) 3 dL_law_1321 rfl ?_
  refine JL_iconst (pc := 1322) (1 : Int32) dL_law_1322 (by decide) ?_
  refine JL_iadd (pc := 1323) dL_law_1323 ?_
  refine JL_xald (pc := 1324) dL_law_1324 h (fun x396 h => ?_)
  refine JL_aload_n (pc := 1325) 0 dL_law_1325 rfl ?_
  refine JL_iload_n (pc := 1326) 3 dL_law_1326 rfl ?_
  refine JL_iconst (pc := 1327) (2 : Int32) dL_law_1327 (by decide) ?_
  refine JL_iadd (pc := 1328) dL_law_1328 ?_
  refine JL_xald (pc := 1329) dL_law_1329 h (fun x397 h => ?_)
  obtain ⟨x400, σ398, hc399, h⟩ := cI_t h
  refine JL_cVi (pc := 1330) (ctX11_wrong l E 0 x396 x397 rfl σ hc399) dL_law_1330 mlL_159 mvX11_wrong rfl rfl (by decide) rfl (Nat.le_of_ble_eq_true rfl) ?_
  refine JL_aload_n (pc := 1333) 2 dL_law_1333 rfl ?_
  refine JL_aload_n (pc := 1334) 0 dL_law_1334 rfl ?_
  refine JL_iload_n (pc := 1335) 3 dL_law_1335 rfl ?_
  refine JL_iconst (pc := 1336) (1 : Int32) dL_law_1336 (by decide) ?_
  refine JL_iadd (pc := 1337) dL_law_1337 ?_
  refine JL_xald (pc := 1338) dL_law_1338 h (fun x401 h => ?_)
  refine JL_aload_n (pc := 1339) 0 dL_law_1339 rfl ?_
  refine JL_iload_n (pc := 1340) 3 dL_law_1340 rfl ?_
  refine JL_iconst (pc := 1341) (2 : Int32) dL_law_1341 (by decide) ?_
  refine JL_iadd (pc := 1342) dL_law_1342 ?_
  refine JL_xald (pc := 1343) dL_law_1343 h (fun x402 h => ?_)
  obtain ⟨x405, σ403, hc404, h⟩ := cI_t h
  refine JL_cVi (pc := 1344) (ctX12_wrong l E 31 x401 x402 rfl σ398 hc404) dL_law_1344 mlL_162 mvX12_wrong rfl rfl (by decide) rfl (Nat.le_of_ble_eq_true rfl) ?_
  refine JL_icmp_eq (pc := 1347) 1802 dL_law_1347 (by decide) h (fun h => ?_) (fun h => ?_)
  · refine JL_iinc (pc := 1802) (L' := [(3, .int (v3 + (6 : Int32))), (0, .ref b), (1, .ref (e_a E 0 0)), (2, .ref (e_a E 31 0))]) 3 (v3 + (6 : Int32)) dL_law_1802 rfl (by rfl) (by decide) rfl ?_
    refine JL_goto (pc := 1805) 18 dL_law_1805 (by decide) ?_
    refine JL_sub (L' := [(0, .ref b), (1, .ref (e_a E 0 0)), (2, .ref (e_a E 31 0)), (3, .int (v3 + (6 : Int32)))]) [1, 2, 3, 0] rfl ?_
    exact hk18 (v3 + (6 : Int32)) σ403 h
  · refine JL_iconst (pc := 1350) (0 : Int32) dL_law_1350 (by decide) ?_
    cases h
def fL_law_1352 (Ln : Nat) (xs : Nat → Int32) (k18 : Int32 → Mm → Option Mm) (v3 : Int32) (σ : Mm) : Option Mm := g_xs Ln xs (v3 + (1 : Int32)) (fun x406 => g_xs Ln xs (v3 + (2 : Int32)) (fun x407 => c_I (fX11_holding 0 x406 x407 σ) (fun x410 σ408 => g_xs Ln xs (v3 + (1 : Int32)) (fun x411 => g_xs Ln xs (v3 + (2 : Int32)) (fun x412 => c_I (fX12_holding 31 x411 x412 σ408) (fun x415 σ413 => if x410 = x415 then (k18 (v3 + (6 : Int32)) σ413) else (none)))))))
set_option maxRecDepth 100000 in
set_option maxHeartbeats 4000000 in
theorem tL_law_1352 (l : Launch) (E : EV) (b : Nat) {τ : Mm} (Ln : Nat) (xs : Nat → Int32) (k18 : Int32 → Mm → Option Mm) (hk18 : ∀ (v3 : Int32) (σ : Mm), k18 v3 σ = some τ → JL l E b Ln xs σ 18 [(0, .ref b), (1, .ref (e_a E 0 0)), (2, .ref (e_a E 31 0)), (3, .int v3)] []) (v3 : Int32) (σ : Mm) (h : fL_law_1352 Ln xs k18 v3 σ = some τ) : JL l E b Ln xs σ 1352 [(0, .ref b), (1, .ref (e_a E 0 0)), (2, .ref (e_a E 31 0)), (3, .int v3)] [] := by
  unfold fL_law_1352 at h
  refine JL_aload_n (pc := 1352) 1 dL_law_1352 rfl ?_
  refine JL_aload_n (pc := 1353) 0 dL_law_1353 rfl ?_
  refine JL_iload_n (pc := 1354) 3 dL_law_1354 rfl ?_
  refine JL_iconst (pc := 1355) (1 : Int32) dL_law_1355 (by decide) ?_
  refine JL_iadd (pc := 1356) dL_law_1356 ?_
  refine JL_xald (pc := 1357) dL_law_1357 h (fun x406 h => ?_)
  refine JL_aload_n (pc := 1358) 0 dL_law_1358 rfl ?_
  refine JL_iload_n (pc := 1359) 3 dL_law_1359 rfl ?_
  refine JL_iconst (pc := 1360) (2 : Int32) dL_law_1360 (by decide) ?_
  refine JL_iadd (pc := 1361) dL_law_1361 ?_
  refine JL_xald (pc := 1362) dL_law_1362 h (fun x407 h => ?_)
  obtain ⟨x410, σ408, hc409, h⟩ := cI_t h
  refine JL_cVi (pc := 1363) (ctX11_holding l E 0 x406 x407 rfl σ hc409) dL_law_1363 mlL_163 mvX11_holding rfl rfl (by decide) rfl (Nat.le_of_ble_eq_true rfl) ?_
  refine JL_aload_n (pc := 1366) 2 dL_law_1366 rfl ?_
  refine JL_aload_n (pc := 1367) 0 dL_law_1367 rfl ?_
  refine JL_iload_n (pc := 1368) 3 dL_law_1368 rfl ?_
  refine JL_iconst (pc := 1369) (1 : Int32) dL_law_1369 (by decide) ?_
  refine JL_iadd (pc := 1370) dL_law_1370 ?_
  refine JL_xald (pc := 1371) dL_law_1371 h (fun x411 h => ?_)
  refine JL_aload_n (pc := 1372) 0 dL_law_1372 rfl ?_
  refine JL_iload_n (pc := 1373) 3 dL_law_1373 rfl ?_
  refine JL_iconst (pc := 1374) (2 : Int32) dL_law_1374 (by decide) ?_
  refine JL_iadd (pc := 1375) dL_law_1375 ?_
  refine JL_xald (pc := 1376) dL_law_1376 h (fun x412 h => ?_)
  obtain ⟨x415, σ413, hc414, h⟩ := cI_t h
  refine JL_cVi (pc := 1377) (ctX12_holding l E 31 x411 x412 rfl σ408 hc414) dL_law_1377 mlL_166 mvX12_holding rfl rfl (by decide) rfl (Nat.le_of_ble_eq_true rfl) ?_
  refine JL_icmp_eq (pc := 1380) 1802 dL_law_1380 (by decide) h (fun h => ?_) (fun h => ?_)
  · refine JL_iinc (pc := 1802) (L' := [(3, .int (v3 + (6 : Int32))), (0, .ref b), (1, .ref (e_a E 0 0)), (2, .ref (e_a E 31 0))]) 3 (v3 + (6 : Int32)) dL_law_1802 rfl (by rfl) (by decide) rfl ?_
    refine JL_goto (pc := 1805) 18 dL_law_1805 (by decide) ?_
    refine JL_sub (L' := [(0, .ref b), (1, .ref (e_a E 0 0)), (2, .ref (e_a E 31 0)), (3, .int (v3 + (6 : Int32)))]) [1, 2, 3, 0] rfl ?_
    exact hk18 (v3 + (6 : Int32)) σ413 h
  · refine JL_iconst (pc := 1383) (0 : Int32) dL_law_1383 (by decide) ?_
    cases h
def fL_law_1385 (Ln : Nat) (xs : Nat → Int32) (k18 : Int32 → Mm → Option Mm) (v3 : Int32) (σ : Mm) : Option Mm := g_xs Ln xs (v3 + (1 : Int32)) (fun x416 => c_I (fX11_helpers 0 x416 σ) (fun x419 σ417 => g_xs Ln xs (v3 + (1 : Int32)) (fun x420 => c_I (fX12_helpers 31 x420 σ417) (fun x423 σ421 => if x419 = x423 then (k18 (v3 + (6 : Int32)) σ421) else (none)))))
set_option maxRecDepth 100000 in
set_option maxHeartbeats 4000000 in
theorem tL_law_1385 (l : Launch) (E : EV) (b : Nat) {τ : Mm} (Ln : Nat) (xs : Nat → Int32) (k18 : Int32 → Mm → Option Mm) (hk18 : ∀ (v3 : Int32) (σ : Mm), k18 v3 σ = some τ → JL l E b Ln xs σ 18 [(0, .ref b), (1, .ref (e_a E 0 0)), (2, .ref (e_a E 31 0)), (3, .int v3)] []) (v3 : Int32) (σ : Mm) (h : fL_law_1385 Ln xs k18 v3 σ = some τ) : JL l E b Ln xs σ 1385 [(0, .ref b), (1, .ref (e_a E 0 0)), (2, .ref (e_a E 31 0)), (3, .int v3)] [] := by
  unfold fL_law_1385 at h
  refine JL_aload_n (pc := 1385) 1 dL_law_1385 rfl ?_
  refine JL_aload_n (pc := 1386) 0 dL_law_1386 rfl ?_
  refine JL_iload_n (pc := 1387) 3 dL_law_1387 rfl ?_
  refine JL_iconst (pc := 1388) (1 : Int32) dL_law_1388 (by decide) ?_
  refine JL_iadd (pc := 1389) dL_law_1389 ?_
  refine JL_xald (pc := 1390) dL_law_1390 h (fun x416 h => ?_)
  obtain ⟨x419, σ417, hc418, h⟩ := cI_t h
  refine JL_cVi (pc := 1391) (ctX11_helpers l E 0 x416 rfl σ hc418) dL_law_1391 mlL_167 mvX11_helpers rfl rfl (by decide) rfl (Nat.le_of_ble_eq_true rfl) ?_
  refine JL_aload_n (pc := 1394) 2 dL_law_1394 rfl ?_
  refine JL_aload_n (pc := 1395) 0 dL_law_1395 rfl ?_
  refine JL_iload_n (pc := 1396) 3 dL_law_1396 rfl ?_
  refine JL_iconst (pc := 1397) (1 : Int32) dL_law_1397 (by decide) ?_
  refine JL_iadd (pc := 1398) dL_law_1398 ?_
  refine JL_xald (pc := 1399) dL_law_1399 h (fun x420 h => ?_)
  obtain ⟨x423, σ421, hc422, h⟩ := cI_t h
  refine JL_cVi (pc := 1400) (ctX12_helpers l E 31 x420 rfl σ417 hc422) dL_law_1400 mlL_170 mvX12_helpers rfl rfl (by decide) rfl (Nat.le_of_ble_eq_true rfl) ?_
  refine JL_icmp_eq (pc := 1403) 1802 dL_law_1403 (by decide) h (fun h => ?_) (fun h => ?_)
  · refine JL_iinc (pc := 1802) (L' := [(3, .int (v3 + (6 : Int32))), (0, .ref b), (1, .ref (e_a E 0 0)), (2, .ref (e_a E 31 0))]) 3 (v3 + (6 : Int32)) dL_law_1802 rfl (by rfl) (by decide) rfl ?_
    refine JL_goto (pc := 1805) 18 dL_law_1805 (by decide) ?_
    refine JL_sub (L' := [(0, .ref b), (1, .ref (e_a E 0 0)), (2, .ref (e_a E 31 0)), (3, .int (v3 + (6 : Int32)))]) [1, 2, 3, 0] rfl ?_
    exact hk18 (v3 + (6 : Int32)) σ421 h
  · refine JL_iconst (pc := 1406) (0 : Int32) dL_law_1406 (by decide) ?_
    cases h
def fL_law_1408 (Ln : Nat) (xs : Nat → Int32) (k18 : Int32 → Mm → Option Mm) (v3 : Int32) (σ : Mm) : Option Mm := c_I (fX11_firstToTurn 0 σ) (fun x426 σ424 => c_I (fX12_firstToTurn 31 σ424) (fun x429 σ427 => if x426 = x429 then (k18 (v3 + (6 : Int32)) σ427) else (none)))
set_option maxRecDepth 100000 in
set_option maxHeartbeats 4000000 in
theorem tL_law_1408 (l : Launch) (E : EV) (b : Nat) {τ : Mm} (Ln : Nat) (xs : Nat → Int32) (k18 : Int32 → Mm → Option Mm) (hk18 : ∀ (v3 : Int32) (σ : Mm), k18 v3 σ = some τ → JL l E b Ln xs σ 18 [(0, .ref b), (1, .ref (e_a E 0 0)), (2, .ref (e_a E 31 0)), (3, .int v3)] []) (v3 : Int32) (σ : Mm) (h : fL_law_1408 Ln xs k18 v3 σ = some τ) : JL l E b Ln xs σ 1408 [(0, .ref b), (1, .ref (e_a E 0 0)), (2, .ref (e_a E 31 0)), (3, .int v3)] [] := by
  unfold fL_law_1408 at h
  refine JL_aload_n (pc := 1408) 1 dL_law_1408 rfl ?_
  obtain ⟨x426, σ424, hc425, h⟩ := cI_t h
  refine JL_cVi (pc := 1409) (ctX11_firstToTurn l E 0 rfl σ hc425) dL_law_1409 mlL_171 mvX11_firstToTurn rfl rfl (by decide) rfl (Nat.le_of_ble_eq_true rfl) ?_
  refine JL_aload_n (pc := 1412) 2 dL_law_1412 rfl ?_
  obtain ⟨x429, σ427, hc428, h⟩ := cI_t h
  refine JL_cVi (pc := 1413) (ctX12_firstToTurn l E 31 rfl σ424 hc428) dL_law_1413 mlL_174 mvX12_firstToTurn rfl rfl (by decide) rfl (Nat.le_of_ble_eq_true rfl) ?_
  refine JL_icmp_eq (pc := 1416) 1802 dL_law_1416 (by decide) h (fun h => ?_) (fun h => ?_)
  · refine JL_iinc (pc := 1802) (L' := [(3, .int (v3 + (6 : Int32))), (0, .ref b), (1, .ref (e_a E 0 0)), (2, .ref (e_a E 31 0))]) 3 (v3 + (6 : Int32)) dL_law_1802 rfl (by rfl) (by decide) rfl ?_
    refine JL_goto (pc := 1805) 18 dL_law_1805 (by decide) ?_
    refine JL_sub (L' := [(0, .ref b), (1, .ref (e_a E 0 0)), (2, .ref (e_a E 31 0)), (3, .int (v3 + (6 : Int32)))]) [1, 2, 3, 0] rfl ?_
    exact hk18 (v3 + (6 : Int32)) σ427 h
  · refine JL_iconst (pc := 1419) (0 : Int32) dL_law_1419 (by decide) ?_
    cases h
def fL_law_1421 (Ln : Nat) (xs : Nat → Int32) (k18 : Int32 → Mm → Option Mm) (v3 : Int32) (σ : Mm) : Option Mm := c_I (fX11_heaviest 0 σ) (fun x432 σ430 => c_I (fX12_heaviest 31 σ430) (fun x435 σ433 => if x432 = x435 then (k18 (v3 + (6 : Int32)) σ433) else (none)))
set_option maxRecDepth 100000 in
set_option maxHeartbeats 4000000 in
theorem tL_law_1421 (l : Launch) (E : EV) (b : Nat) {τ : Mm} (Ln : Nat) (xs : Nat → Int32) (k18 : Int32 → Mm → Option Mm) (hk18 : ∀ (v3 : Int32) (σ : Mm), k18 v3 σ = some τ → JL l E b Ln xs σ 18 [(0, .ref b), (1, .ref (e_a E 0 0)), (2, .ref (e_a E 31 0)), (3, .int v3)] []) (v3 : Int32) (σ : Mm) (h : fL_law_1421 Ln xs k18 v3 σ = some τ) : JL l E b Ln xs σ 1421 [(0, .ref b), (1, .ref (e_a E 0 0)), (2, .ref (e_a E 31 0)), (3, .int v3)] [] := by
  unfold fL_law_1421 at h
  refine JL_aload_n (pc := 1421) 1 dL_law_1421 rfl ?_
  obtain ⟨x432, σ430, hc431, h⟩ := cI_t h
  refine JL_cVi (pc := 1422) (ctX11_heaviest l E 0 rfl σ hc431) dL_law_1422 mlL_175 mvX11_heaviest rfl rfl (by decide) rfl (Nat.le_of_ble_eq_true rfl) ?_
  refine JL_aload_n (pc := 1425) 2 dL_law_1425 rfl ?_
  obtain ⟨x435, σ433, hc434, h⟩ := cI_t h
  refine JL_cVi (pc := 1426) (ctX12_heaviest l E 31 rfl σ430 hc434) dL_law_1426 mlL_178 mvX12_heaviest rfl rfl (by decide) rfl (Nat.le_of_ble_eq_true rfl) ?_
  refine JL_icmp_eq (pc := 1429) 1802 dL_law_1429 (by decide) h (fun h => ?_) (fun h => ?_)
  · refine JL_iinc (pc := 1802) (L' := [(3, .int (v3 + (6 : Int32))), (0, .ref b), (1, .ref (e_a E 0 0)), (2, .ref (e_a E 31 0))]) 3 (v3 + (6 : Int32)) dL_law_1802 rfl (by rfl) (by decide) rfl ?_
    refine JL_goto (pc := 1805) 18 dL_law_1805 (by decide) ?_
    refine JL_sub (L' := [(0, .ref b), (1, .ref (e_a E 0 0)), (2, .ref (e_a E 31 0)), (3, .int (v3 + (6 : Int32)))]) [1, 2, 3, 0] rfl ?_
    exact hk18 (v3 + (6 : Int32)) σ433 h
  · refine JL_iconst (pc := 1432) (0 : Int32) dL_law_1432 (by decide) ?_
    cases h
def fL_law_1434 (Ln : Nat) (xs : Nat → Int32) (k18 : Int32 → Mm → Option Mm) (v3 : Int32) (σ : Mm) : Option Mm := c_I (fX11_farthest 0 σ) (fun x438 σ436 => c_I (fX12_farthest 31 σ436) (fun x441 σ439 => if x438 = x441 then (k18 (v3 + (6 : Int32)) σ439) else (none)))
set_option maxRecDepth 100000 in
set_option maxHeartbeats 4000000 in
theorem tL_law_1434 (l : Launch) (E : EV) (b : Nat) {τ : Mm} (Ln : Nat) (xs : Nat → Int32) (k18 : Int32 → Mm → Option Mm) (hk18 : ∀ (v3 : Int32) (σ : Mm), k18 v3 σ = some τ → JL l E b Ln xs σ 18 [(0, .ref b), (1, .ref (e_a E 0 0)), (2, .ref (e_a E 31 0)), (3, .int v3)] []) (v3 : Int32) (σ : Mm) (h : fL_law_1434 Ln xs k18 v3 σ = some τ) : JL l E b Ln xs σ 1434 [(0, .ref b), (1, .ref (e_a E 0 0)), (2, .ref (e_a E 31 0)), (3, .int v3)] [] := by
  unfold fL_law_1434 at h
  refine JL_aload_n (pc := 1434) 1 dL_law_1434 rfl ?_
  obtain ⟨x438, σ436, hc437, h⟩ := cI_t h
  refine JL_cVi (pc := 1435) (ctX11_farthest l E 0 rfl σ hc437) dL_law_1435 mlL_179 mvX11_farthest rfl rfl (by decide) rfl (Nat.le_of_ble_eq_true rfl) ?_
  refine JL_aload_n (pc := 1438) 2 dL_law_1438 rfl ?_
  obtain ⟨x441, σ439, hc440, h⟩ := cI_t h
  refine JL_cVi (pc := 1439) (ctX12_farthest l E 31 rfl σ436 hc440) dL_law_1439 mlL_182 mvX12_farthest rfl rfl (by decide) rfl (Nat.le_of_ble_eq_true rfl) ?_
  refine JL_icmp_eq (pc := 1442) 1802 dL_law_1442 (by decide) h (fun h => ?_) (fun h => ?_)
  · refine JL_iinc (pc := 1802) (L' := [(3, .int (v3 + (6 : Int32))), (0, .ref b), (1, .ref (e_a E 0 0)), (2, .ref (e_a E 31 0))]) 3 (v3 + (6 : Int32)) dL_law_1802 rfl (by rfl) (by decide) rfl ?_
    refine JL_goto (pc := 1805) 18 dL_law_1805 (by decide) ?_
    refine JL_sub (L' := [(0, .ref b), (1, .ref (e_a E 0 0)), (2, .ref (e_a E 31 0)), (3, .int (v3 + (6 : Int32)))]) [1, 2, 3, 0] rfl ?_
    exact hk18 (v3 + (6 : Int32)) σ439 h
  · refine JL_iconst (pc := 1445) (0 : Int32) dL_law_1445 (by decide) ?_
    cases h
def fL_law_1447 (Ln : Nat) (xs : Nat → Int32) (k18 : Int32 → Mm → Option Mm) (v3 : Int32) (σ : Mm) : Option Mm := c_I (fX11_calmed 0 σ) (fun x444 σ442 => c_I (fX12_calmed 31 σ442) (fun x447 σ445 => if x444 = x447 then (k18 (v3 + (6 : Int32)) σ445) else (none)))
set_option maxRecDepth 100000 in
set_option maxHeartbeats 4000000 in
theorem tL_law_1447 (l : Launch) (E : EV) (b : Nat) {τ : Mm} (Ln : Nat) (xs : Nat → Int32) (k18 : Int32 → Mm → Option Mm) (hk18 : ∀ (v3 : Int32) (σ : Mm), k18 v3 σ = some τ → JL l E b Ln xs σ 18 [(0, .ref b), (1, .ref (e_a E 0 0)), (2, .ref (e_a E 31 0)), (3, .int v3)] []) (v3 : Int32) (σ : Mm) (h : fL_law_1447 Ln xs k18 v3 σ = some τ) : JL l E b Ln xs σ 1447 [(0, .ref b), (1, .ref (e_a E 0 0)), (2, .ref (e_a E 31 0)), (3, .int v3)] [] := by
  unfold fL_law_1447 at h
  refine JL_aload_n (pc := 1447) 1 dL_law_1447 rfl ?_
  obtain ⟨x444, σ442, hc443, h⟩ := cI_t h
  refine JL_cVi (pc := 1448) (ctX11_calmed l E 0 rfl σ hc443) dL_law_1448 mlL_183 mvX11_calmed rfl rfl (by decide) rfl (Nat.le_of_ble_eq_true rfl) ?_
  refine JL_aload_n (pc := 1451) 2 dL_law_1451 rfl ?_
  obtain ⟨x447, σ445, hc446, h⟩ := cI_t h
  refine JL_cVi (pc := 1452) (ctX12_calmed l E 31 rfl σ442 hc446) dL_law_1452 mlL_186 mvX12_calmed rfl rfl (by decide) rfl (Nat.le_of_ble_eq_true rfl) ?_
  refine JL_icmp_eq (pc := 1455) 1802 dL_law_1455 (by decide) h (fun h => ?_) (fun h => ?_)
  · refine JL_iinc (pc := 1802) (L' := [(3, .int (v3 + (6 : Int32))), (0, .ref b), (1, .ref (e_a E 0 0)), (2, .ref (e_a E 31 0))]) 3 (v3 + (6 : Int32)) dL_law_1802 rfl (by rfl) (by decide) rfl ?_
    refine JL_goto (pc := 1805) 18 dL_law_1805 (by decide) ?_
    refine JL_sub (L' := [(0, .ref b), (1, .ref (e_a E 0 0)), (2, .ref (e_a E 31 0)), (3, .int (v3 + (6 : Int32)))]) [1, 2, 3, 0] rfl ?_
    exact hk18 (v3 + (6 : Int32)) σ445 h
  · refine JL_iconst (pc := 1458) (0 : Int32) dL_law_1458 (by decide) ?_
    cases h
def fL_law_1460 (Ln : Nat) (xs : Nat → Int32) (k18 : Int32 → Mm → Option Mm) (v3 : Int32) (σ : Mm) : Option Mm := g_xs Ln xs (v3 + (1 : Int32)) (fun x448 => c_I (fX11_teeth 0 x448 σ) (fun x451 σ449 => g_xs Ln xs (v3 + (1 : Int32)) (fun x452 => c_I (fX12_teeth 31 x452 σ449) (fun x455 σ453 => if x451 = x455 then (k18 (v3 + (6 : Int32)) σ453) else (none)))))
set_option maxRecDepth 100000 in
set_option maxHeartbeats 4000000 in
theorem tL_law_1460 (l : Launch) (E : EV) (b : Nat) {τ : Mm} (Ln : Nat) (xs : Nat → Int32) (k18 : Int32 → Mm → Option Mm) (hk18 : ∀ (v3 : Int32) (σ : Mm), k18 v3 σ = some τ → JL l E b Ln xs σ 18 [(0, .ref b), (1, .ref (e_a E 0 0)), (2, .ref (e_a E 31 0)), (3, .int v3)] []) (v3 : Int32) (σ : Mm) (h : fL_law_1460 Ln xs k18 v3 σ = some τ) : JL l E b Ln xs σ 1460 [(0, .ref b), (1, .ref (e_a E 0 0)), (2, .ref (e_a E 31 0)), (3, .int v3)] [] := by
  unfold fL_law_1460 at h
  refine JL_aload_n (pc := 1460) 1 dL_law_1460 rfl ?_
  refine JL_aload_n (pc := 1461) 0 dL_law_1461 rfl ?_
  refine JL_iload_n (pc := 1462) 3 dL_law_1462 rfl ?_
  refine JL_iconst (pc := 1463) (1 : Int32) dL_law_1463 (by decide) ?_
  refine JL_iadd (pc := 1464) dL_law_1464 ?_
  refine JL_xald (pc := 1465) dL_law_1465 h (fun x448 h => ?_)
  obtain ⟨x451, σ449, hc450, h⟩ := cI_t h
  refine JL_cVi (pc := 1466) (ctX11_teeth l E 0 x448 rfl σ hc450) dL_law_1466 mlL_187 mvX11_teeth rfl rfl (by decide) rfl (Nat.le_of_ble_eq_true rfl) ?_
  refine JL_aload_n (pc := 1469) 2 dL_law_1469 rfl ?_
  refine JL_aload_n (pc := 1470) 0 dL_law_1470 rfl ?_
  refine JL_iload_n (pc := 1471) 3 dL_law_1471 rfl ?_
  refine JL_iconst (pc := 1472) (1 : Int32) dL_law_1472 (by decide) ?_
  refine JL_iadd (pc := 1473) dL_law_1473 ?_
  refine JL_xald (pc := 1474) dL_law_1474 h (fun x452 h => ?_)
  obtain ⟨x455, σ453, hc454, h⟩ := cI_t h
  refine JL_cVi (pc := 1475) (ctX12_teeth l E 31 x452 rfl σ449 hc454) dL_law_1475 mlL_190 mvX12_teeth rfl rfl (by decide) rfl (Nat.le_of_ble_eq_true rfl) ?_
  refine JL_icmp_eq (pc := 1478) 1802 dL_law_1478 (by decide) h (fun h => ?_) (fun h => ?_)
  · refine JL_iinc (pc := 1802) (L' := [(3, .int (v3 + (6 : Int32))), (0, .ref b), (1, .ref (e_a E 0 0)), (2, .ref (e_a E 31 0))]) 3 (v3 + (6 : Int32)) dL_law_1802 rfl (by rfl) (by decide) rfl ?_
    refine JL_goto (pc := 1805) 18 dL_law_1805 (by decide) ?_
    refine JL_sub (L' := [(0, .ref b), (1, .ref (e_a E 0 0)), (2, .ref (e_a E 31 0)), (3, .int (v3 + (6 : Int32)))]) [1, 2, 3, 0] rfl ?_
    exact hk18 (v3 + (6 : Int32)) σ453 h
  · refine JL_iconst (pc := 1481) (0 : Int32) dL_law_1481 (by decide) ?_
    cases h
def fL_law_1483 (Ln : Nat) (xs : Nat → Int32) (k18 : Int32 → Mm → Option Mm) (v3 : Int32) (σ : Mm) : Option Mm := g_xs Ln xs (v3 + (1 : Int32)) (fun x456 => g_xs Ln xs (v3 + (2 : Int32)) (fun x457 => c_I (fX11_bestWind 0 x456 x457 σ) (fun x460 σ458 => g_xs Ln xs (v3 + (1 : Int32)) (fun x461 => g_xs Ln xs (v3 + (2 : Int32)) (fun x462 => c_I (fX12_bestWind 31 x461 x462 σ458) (fun x465 σ463 => if x460 = x465 then (k18 (v3 + (6 : Int32)) σ463) else (none)))))))
set_option maxRecDepth 100000 in
set_option maxHeartbeats 4000000 in
theorem tL_law_1483 (l : Launch) (E : EV) (b : Nat) {τ : Mm} (Ln : Nat) (xs : Nat → Int32) (k18 : Int32 → Mm → Option Mm) (hk18 : ∀ (v3 : Int32) (σ : Mm), k18 v3 σ = some τ → JL l E b Ln xs σ 18 [(0, .ref b), (1, .ref (e_a E 0 0)), (2, .ref (e_a E 31 0)), (3, .int v3)] []) (v3 : Int32) (σ : Mm) (h : fL_law_1483 Ln xs k18 v3 σ = some τ) : JL l E b Ln xs σ 1483 [(0, .ref b), (1, .ref (e_a E 0 0)), (2, .ref (e_a E 31 0)), (3, .int v3)] [] := by
  unfold fL_law_1483 at h
  refine JL_aload_n (pc := 1483) 1 dL_law_1483 rfl ?_
  refine JL_aload_n (pc := 1484) 0 dL_law_1484 rfl ?_
  refine JL_iload_n (pc := 1485) 3 dL_law_1485 rfl ?_
  refine JL_iconst (pc := 1486) (1 : Int32) dL_law_1486 (by decide) ?_
  refine JL_iadd (pc := 1487) dL_law_1487 ?_
  refine JL_xald (pc := 1488) dL_law_1488 h (fun x456 h => ?_)
  refine JL_aload_n (pc := 1489) 0 dL_law_1489 rfl ?_
  refine JL_iload_n (pc := 1490) 3 dL_law_1490 rfl ?_
  refine JL_iconst (pc := 1491) (2 : Int32) dL_law_1491 (by decide) ?_
  refine JL_iadd (pc := 1492) dL_law_1492 ?_
  refine JL_xald (pc := 1493) dL_law_1493 h (fun x457 h => ?_)
  obtain ⟨x460, σ458, hc459, h⟩ := cI_t h
  refine JL_cVi (pc := 1494) (ctX11_bestWind l E 0 x456 x457 rfl σ hc459) dL_law_1494 mlL_191 mvX11_bestWind rfl rfl (by decide) rfl (Nat.le_of_ble_eq_true rfl) ?_
  refine JL_aload_n (pc := 1497) 2 dL_law_1497 rfl ?_
  refine JL_aload_n (pc := 1498) 0 dL_law_1498 rfl ?_
  refine JL_iload_n (pc := 1499) 3 dL_law_1499 rfl ?_
  refine JL_iconst (pc := 1500) (1 : Int32) dL_law_1500 (by decide) ?_
  refine JL_iadd (pc := 1501) dL_law_1501 ?_
  refine JL_xald (pc := 1502) dL_law_1502 h (fun x461 h => ?_)
  refine JL_aload_n (pc := 1503) 0 dL_law_1503 rfl ?_
  refine JL_iload_n (pc := 1504) 3 dL_law_1504 rfl ?_
  refine JL_iconst (pc := 1505) (2 : Int32) dL_law_1505 (by decide) ?_
  refine JL_iadd (pc := 1506) dL_law_1506 ?_
  refine JL_xald (pc := 1507) dL_law_1507 h (fun x462 h => ?_)
  obtain ⟨x465, σ463, hc464, h⟩ := cI_t h
  refine JL_cVi (pc := 1508) (ctX12_bestWind l E 31 x461 x462 rfl σ458 hc464) dL_law_1508 mlL_194 mvX12_bestWind rfl rfl (by decide) rfl (Nat.le_of_ble_eq_true rfl) ?_
  refine JL_icmp_eq (pc := 1511) 1802 dL_law_1511 (by decide) h (fun h => ?_) (fun h => ?_)
  · refine JL_iinc (pc := 1802) (L' := [(3, .int (v3 + (6 : Int32))), (0, .ref b), (1, .ref (e_a E 0 0)), (2, .ref (e_a E 31 0))]) 3 (v3 + (6 : Int32)) dL_law_1802 rfl (by rfl) (by decide) rfl ?_
    refine JL_goto (pc := 1805) 18 dL_law_1805 (by decide) ?_
    refine JL_sub (L' := [(0, .ref b), (1, .ref (e_a E 0 0)), (2, .ref (e_a E 31 0)), (3, .int (v3 + (6 : Int32)))]) [1, 2, 3, 0] rfl ?_
    exact hk18 (v3 + (6 : Int32)) σ463 h
  · refine JL_iconst (pc := 1514) (0 : Int32) dL_law_1514 (by decide) ?_
    cases h
def fL_law_1516 (Ln : Nat) (xs : Nat → Int32) (k18 : Int32 → Mm → Option Mm) (v3 : Int32) (σ : Mm) : Option Mm := c_I (fX11_parting 0 σ) (fun x468 σ466 => c_I (fX12_parting 31 σ466) (fun x471 σ469 => if x468 = x471 then (k18 (v3 + (6 : Int32)) σ469) else (none)))
set_option maxRecDepth 100000 in
set_option maxHeartbeats 4000000 in
theorem tL_law_1516 (l : Launch) (E : EV) (b : Nat) {τ : Mm} (Ln : Nat) (xs : Nat → Int32) (k18 : Int32 → Mm → Option Mm) (hk18 : ∀ (v3 : Int32) (σ : Mm), k18 v3 σ = some τ → JL l E b Ln xs σ 18 [(0, .ref b), (1, .ref (e_a E 0 0)), (2, .ref (e_a E 31 0)), (3, .int v3)] []) (v3 : Int32) (σ : Mm) (h : fL_law_1516 Ln xs k18 v3 σ = some τ) : JL l E b Ln xs σ 1516 [(0, .ref b), (1, .ref (e_a E 0 0)), (2, .ref (e_a E 31 0)), (3, .int v3)] [] := by
  unfold fL_law_1516 at h
  refine JL_aload_n (pc := 1516) 1 dL_law_1516 rfl ?_
  obtain ⟨x468, σ466, hc467, h⟩ := cI_t h
  refine JL_cVi (pc := 1517) (ctX11_parting l E 0 rfl σ hc467) dL_law_1517 mlL_195 mvX11_parting rfl rfl (by decide) rfl (Nat.le_of_ble_eq_true rfl) ?_
  refine JL_aload_n (pc := 1520) 2 dL_law_1520 rfl ?_
  obtain ⟨x471, σ469, hc470, h⟩ := cI_t h
  refine JL_cVi (pc := 1521) (ctX12_parting l E 31 rfl σ466 hc470) dL_law_1521 mlL_198 mvX12_parting rfl rfl (by decide) rfl (Nat.le_of_ble_eq_true rfl) ?_
  refine JL_icmp_eq (pc := 1524) 1802 dL_law_1524 (by decide) h (fun h => ?_) (fun h => ?_)
  · refine JL_iinc (pc := 1802) (L' := [(3, .int (v3 + (6 : Int32))), (0, .ref b), (1, .ref (e_a E 0 0)), (2, .ref (e_a E 31 0))]) 3 (v3 + (6 : Int32)) dL_law_1802 rfl (by rfl) (by decide) rfl ?_
    refine JL_goto (pc := 1805) 18 dL_law_1805 (by decide) ?_
    refine JL_sub (L' := [(0, .ref b), (1, .ref (e_a E 0 0)), (2, .ref (e_a E 31 0)), (3, .int (v3 + (6 : Int32)))]) [1, 2, 3, 0] rfl ?_
    exact hk18 (v3 + (6 : Int32)) σ469 h
  · refine JL_iconst (pc := 1527) (0 : Int32) dL_law_1527 (by decide) ?_
    cases h
def fL_law_1529 (Ln : Nat) (xs : Nat → Int32) (k18 : Int32 → Mm → Option Mm) (v3 : Int32) (σ : Mm) : Option Mm := g_xs Ln xs (v3 + (1 : Int32)) (fun x472 => c_I (fX11_mending 0 x472 σ) (fun x475 σ473 => g_xs Ln xs (v3 + (1 : Int32)) (fun x476 => c_I (fX12_mending 31 x476 σ473) (fun x479 σ477 => if x475 = x479 then (k18 (v3 + (6 : Int32)) σ477) else (none)))))
set_option maxRecDepth 100000 in
set_option maxHeartbeats 4000000 in
theorem tL_law_1529 (l : Launch) (E : EV) (b : Nat) {τ : Mm} (Ln : Nat) (xs : Nat → Int32) (k18 : Int32 → Mm → Option Mm) (hk18 : ∀ (v3 : Int32) (σ : Mm), k18 v3 σ = some τ → JL l E b Ln xs σ 18 [(0, .ref b), (1, .ref (e_a E 0 0)), (2, .ref (e_a E 31 0)), (3, .int v3)] []) (v3 : Int32) (σ : Mm) (h : fL_law_1529 Ln xs k18 v3 σ = some τ) : JL l E b Ln xs σ 1529 [(0, .ref b), (1, .ref (e_a E 0 0)), (2, .ref (e_a E 31 0)), (3, .int v3)] [] := by
  unfold fL_law_1529 at h
  refine JL_aload_n (pc := 1529) 1 dL_law_1529 rfl ?_
  refine JL_aload_n (pc := 1530) 0 dL_law_1530 rfl ?_
  refine JL_iload_n (pc := 1531) 3 dL_law_1531 rfl ?_
  refine JL_iconst (pc := 1532) (1 : Int32) dL_law_1532 (by decide) ?_
  refine JL_iadd (pc := 1533) dL_law_1533 ?_
  refine JL_xald (pc := 1534) dL_law_1534 h (fun x472 h => ?_)
  obtain ⟨x475, σ473, hc474, h⟩ := cI_t h
  refine JL_cVi (pc := 1535) (ctX11_mending l E 0 x472 rfl σ hc474) dL_law_1535 mlL_199 mvX11_mending rfl rfl (by decide) rfl (Nat.le_of_ble_eq_true rfl) ?_
  refine JL_aload_n (pc := 1538) 2 dL_law_1538 rfl ?_
  refine JL_aload_n (pc := 1539) 0 dL_law_1539 rfl ?_
  refine JL_iload_n (pc := 1540) 3 dL_law_1540 rfl ?_
  refine JL_iconst (pc := 1541) (1 : Int32) dL_law_1541 (by decide) ?_
  refine JL_iadd (pc := 1542) dL_law_1542 ?_
  refine JL_xald (pc := 1543) dL_law_1543 h (fun x476 h => ?_)
  obtain ⟨x479, σ477, hc478, h⟩ := cI_t h
  refine JL_cVi (pc := 1544) (ctX12_mending l E 31 x476 rfl σ473 hc478) dL_law_1544 mlL_202 mvX12_mending rfl rfl (by decide) rfl (Nat.le_of_ble_eq_true rfl) ?_
  refine JL_icmp_eq (pc := 1547) 1802 dL_law_1547 (by decide) h (fun h => ?_) (fun h => ?_)
  · refine JL_iinc (pc := 1802) (L' := [(3, .int (v3 + (6 : Int32))), (0, .ref b), (1, .ref (e_a E 0 0)), (2, .ref (e_a E 31 0))]) 3 (v3 + (6 : Int32)) dL_law_1802 rfl (by rfl) (by decide) rfl ?_
    refine JL_goto (pc := 1805) 18 dL_law_1805 (by decide) ?_
    refine JL_sub (L' := [(0, .ref b), (1, .ref (e_a E 0 0)), (2, .ref (e_a E 31 0)), (3, .int (v3 + (6 : Int32)))]) [1, 2, 3, 0] rfl ?_
    exact hk18 (v3 + (6 : Int32)) σ477 h
  · refine JL_iconst (pc := 1550) (0 : Int32) dL_law_1550 (by decide) ?_
    cases h
def fL_law_1552 (Ln : Nat) (xs : Nat → Int32) (k18 : Int32 → Mm → Option Mm) (v3 : Int32) (σ : Mm) : Option Mm := g_xs Ln xs (v3 + (1 : Int32)) (fun x480 => c_I (fX11_leaving 0 x480 σ) (fun x483 σ481 => g_xs Ln xs (v3 + (1 : Int32)) (fun x484 => c_I (fX12_leaving 31 x484 σ481) (fun x487 σ485 => if x483 = x487 then (k18 (v3 + (6 : Int32)) σ485) else (none)))))
set_option maxRecDepth 100000 in
set_option maxHeartbeats 4000000 in
theorem tL_law_1552 (l : Launch) (E : EV) (b : Nat) {τ : Mm} (Ln : Nat) (xs : Nat → Int32) (k18 : Int32 → Mm → Option Mm) (hk18 : ∀ (v3 : Int32) (σ : Mm), k18 v3 σ = some τ → JL l E b Ln xs σ 18 [(0, .ref b), (1, .ref (e_a E 0 0)), (2, .ref (e_a E 31 0)), (3, .int v3)] []) (v3 : Int32) (σ : Mm) (h : fL_law_1552 Ln xs k18 v3 σ = some τ) : JL l E b Ln xs σ 1552 [(0, .ref b), (1, .ref (e_a E 0 0)), (2, .ref (e_a E 31 0)), (3, .int v3)] [] := by
  unfold fL_law_1552 at h
  refine JL_aload_n (pc := 1552) 1 dL_law_1552 rfl ?_
  refine JL_aload_n (pc := 1553) 0 dL_law_1553 rfl ?_
  refine JL_iload_n (pc := 1554) 3 dL_law_1554 rfl ?_
  refine JL_iconst (pc := 1555) (1 : Int32) dL_law_1555 (by decide) ?_
  refine JL_iadd (pc := 1556) dL_law_1556 ?_
  refine JL_xald (pc := 1557) dL_law_1557 h (fun x480 h => ?_)
  obtain ⟨x483, σ481, hc482, h⟩ := cI_t h
  refine JL_cVi (pc := 1558) (ctX11_leaving l E 0 x480 rfl σ hc482) dL_law_1558 mlL_203 mvX11_leaving rfl rfl (by decide) rfl (Nat.le_of_ble_eq_true rfl) ?_
  refine JL_aload_n (pc := 1561) 2 dL_law_1561 rfl ?_
  refine JL_aload_n (pc := 1562) 0 dL_law_1562 rfl ?_
  refine JL_iload_n (pc := 1563) 3 dL_law_1563 rfl ?_
  refine JL_iconst (pc := 1564) (1 : Int32) dL_law_1564 (by decide) ?_
  refine JL_iadd (pc := 1565) dL_law_1565 ?_
  refine JL_xald (pc := 1566) dL_law_1566 h (fun x484 h => ?_)
  obtain ⟨x487, σ485, hc486, h⟩ := cI_t h
  refine JL_cVi (pc := 1567) (ctX12_leaving l E 31 x484 rfl σ481 hc486) dL_law_1567 mlL_206 mvX12_leaving rfl rfl (by decide) rfl (Nat.le_of_ble_eq_true rfl) ?_
  refine JL_icmp_eq (pc := 1570) 1802 dL_law_1570 (by decide) h (fun h => ?_) (fun h => ?_)
  · refine JL_iinc (pc := 1802) (L' := [(3, .int (v3 + (6 : Int32))), (0, .ref b), (1, .ref (e_a E 0 0)), (2, .ref (e_a E 31 0))]) 3 (v3 + (6 : Int32)) dL_law_1802 rfl (by rfl) (by decide) rfl ?_
    refine JL_goto (pc := 1805) 18 dL_law_1805 (by decide) ?_
    refine JL_sub (L' := [(0, .ref b), (1, .ref (e_a E 0 0)), (2, .ref (e_a E 31 0)), (3, .int (v3 + (6 : Int32)))]) [1, 2, 3, 0] rfl ?_
    exact hk18 (v3 + (6 : Int32)) σ485 h
  · refine JL_iconst (pc := 1573) (0 : Int32) dL_law_1573 (by decide) ?_
    cases h
def fL_law_1575 (Ln : Nat) (xs : Nat → Int32) (k18 : Int32 → Mm → Option Mm) (v3 : Int32) (σ : Mm) : Option Mm := g_xs Ln xs (v3 + (1 : Int32)) (fun x488 => c_I (fX11_knowing 0 x488 σ) (fun x491 σ489 => g_xs Ln xs (v3 + (1 : Int32)) (fun x492 => c_I (fX12_knowing 31 x492 σ489) (fun x495 σ493 => if x491 = x495 then (k18 (v3 + (6 : Int32)) σ493) else (none)))))
set_option maxRecDepth 100000 in
set_option maxHeartbeats 4000000 in
theorem tL_law_1575 (l : Launch) (E : EV) (b : Nat) {τ : Mm} (Ln : Nat) (xs : Nat → Int32) (k18 : Int32 → Mm → Option Mm) (hk18 : ∀ (v3 : Int32) (σ : Mm), k18 v3 σ = some τ → JL l E b Ln xs σ 18 [(0, .ref b), (1, .ref (e_a E 0 0)), (2, .ref (e_a E 31 0)), (3, .int v3)] []) (v3 : Int32) (σ : Mm) (h : fL_law_1575 Ln xs k18 v3 σ = some τ) : JL l E b Ln xs σ 1575 [(0, .ref b), (1, .ref (e_a E 0 0)), (2, .ref (e_a E 31 0)), (3, .int v3)] [] := by
  unfold fL_law_1575 at h
  refine JL_aload_n (pc := 1575) 1 dL_law_1575 rfl ?_
  refine JL_aload_n (pc := 1576) 0 dL_law_1576 rfl ?_
  refine JL_iload_n (pc := 1577) 3 dL_law_1577 rfl ?_
  refine JL_iconst (pc := 1578) (1 : Int32) dL_law_1578 (by decide) ?_
  refine JL_iadd (pc := 1579) dL_law_1579 ?_
  refine JL_xald (pc := 1580) dL_law_1580 h (fun x488 h => ?_)
  obtain ⟨x491, σ489, hc490, h⟩ := cI_t h
  refine JL_cVi (pc := 1581) (ctX11_knowing l E 0 x488 rfl σ hc490) dL_law_1581 mlL_207 mvX11_knowing rfl rfl (by decide) rfl (Nat.le_of_ble_eq_true rfl) ?_
  refine JL_aload_n (pc := 1584) 2 dL_law_1584 rfl ?_
  refine JL_aload_n (pc := 1585) 0 dL_law_1585 rfl ?_
  refine JL_iload_n (pc := 1586) 3 dL_law_1586 rfl ?_
  refine JL_iconst (pc := 1587) (1 : Int32) dL_law_1587 (by decide) ?_
  refine JL_iadd (pc := 1588) dL_law_1588 ?_
  refine JL_xald (pc := 1589) dL_law_1589 h (fun x492 h => ?_)
  obtain ⟨x495, σ493, hc494, h⟩ := cI_t h
  refine JL_cVi (pc := 1590) (ctX12_knowing l E 31 x492 rfl σ489 hc494) dL_law_1590 mlL_210 mvX12_knowing rfl rfl (by decide) rfl (Nat.le_of_ble_eq_true rfl) ?_
  refine JL_icmp_eq (pc := 1593) 1802 dL_law_1593 (by decide) h (fun h => ?_) (fun h => ?_)
  · refine JL_iinc (pc := 1802) (L' := [(3, .int (v3 + (6 : Int32))), (0, .ref b), (1, .ref (e_a E 0 0)), (2, .ref (e_a E 31 0))]) 3 (v3 + (6 : Int32)) dL_law_1802 rfl (by rfl) (by decide) rfl ?_
    refine JL_goto (pc := 1805) 18 dL_law_1805 (by decide) ?_
    refine JL_sub (L' := [(0, .ref b), (1, .ref (e_a E 0 0)), (2, .ref (e_a E 31 0)), (3, .int (v3 + (6 : Int32)))]) [1, 2, 3, 0] rfl ?_
    exact hk18 (v3 + (6 : Int32)) σ493 h
  · refine JL_iconst (pc := 1596) (0 : Int32) dL_law_1596 (by decide) ?_
    cases h
def fL_law_1598 (Ln : Nat) (xs : Nat → Int32) (k18 : Int32 → Mm → Option Mm) (v3 : Int32) (σ : Mm) : Option Mm := g_xs Ln xs (v3 + (1 : Int32)) (fun x496 => g_xs Ln xs (v3 + (2 : Int32)) (fun x497 => c_I (fX11_whole 0 x496 x497 σ) (fun x500 σ498 => g_xs Ln xs (v3 + (1 : Int32)) (fun x501 => g_xs Ln xs (v3 + (2 : Int32)) (fun x502 => c_I (fX12_whole 31 x501 x502 σ498) (fun x505 σ503 => if x500 = x505 then (k18 (v3 + (6 : Int32)) σ503) else (none)))))))
set_option maxRecDepth 100000 in
set_option maxHeartbeats 4000000 in
theorem tL_law_1598 (l : Launch) (E : EV) (b : Nat) {τ : Mm} (Ln : Nat) (xs : Nat → Int32) (k18 : Int32 → Mm → Option Mm) (hk18 : ∀ (v3 : Int32) (σ : Mm), k18 v3 σ = some τ → JL l E b Ln xs σ 18 [(0, .ref b), (1, .ref (e_a E 0 0)), (2, .ref (e_a E 31 0)), (3, .int v3)] []) (v3 : Int32) (σ : Mm) (h : fL_law_1598 Ln xs k18 v3 σ = some τ) : JL l E b Ln xs σ 1598 [(0, .ref b), (1, .ref (e_a E 0 0)), (2, .ref (e_a E 31 0)), (3, .int v3)] [] := by
  unfold fL_law_1598 at h
  refine JL_aload_n (pc := 1598) 1 dL_law_1598 rfl ?_
  refine JL_aload_n (pc := 1599) 0 dL_law_1599 rfl ?_
  refine JL_iload_n (pc := 1600) 3 dL_law_1600 rfl ?_
  refine JL_iconst (pc := 1601) (1 : Int32) dL_law_1601 (by decide) ?_
  refine JL_iadd (pc := 1602) dL_law_1602 ?_
  refine JL_xald (pc := 1603) dL_law_1603 h (fun x496 h => ?_)
  refine JL_aload_n (pc := 1604) 0 dL_law_1604 rfl ?_
  refine JL_iload_n (pc := 1605) 3 dL_law_1605 rfl ?_
  refine JL_iconst (pc := 1606) (2 : Int32) dL_law_1606 (by decide) ?_
  refine JL_iadd (pc := 1607) dL_law_1607 ?_
  refine JL_xald (pc := 1608) dL_law_1608 h (fun x497 h => ?_)
  obtain ⟨x500, σ498, hc499, h⟩ := cI_t h
  refine JL_cVi (pc := 1609) (ctX11_whole l E 0 x496 x497 rfl σ hc499) dL_law_1609 mlL_211 mvX11_whole rfl rfl (by decide) rfl (Nat.le_of_ble_eq_true rfl) ?_
  refine JL_aload_n (pc := 1612) 2 dL_law_1612 rfl ?_
  refine JL_aload_n (pc := 1613) 0 dL_law_1613 rfl ?_
  refine JL_iload_n (pc := 1614) 3 dL_law_1614 rfl ?_
  refine JL_iconst (pc := 1615) (1 : Int32) dL_law_1615 (by decide) ?_
  refine JL_iadd (pc := 1616) dL_law_1616 ?_
  refine JL_xald (pc := 1617) dL_law_1617 h (fun x501 h => ?_)
  refine JL_aload_n (pc := 1618) 0 dL_law_1618 rfl ?_
  refine JL_iload_n (pc := 1619) 3 dL_law_1619 rfl ?_
  refine JL_iconst (pc := 1620) (2 : Int32) dL_law_1620 (by decide) ?_
  refine JL_iadd (pc := 1621) dL_law_1621 ?_
  refine JL_xald (pc := 1622) dL_law_1622 h (fun x502 h => ?_)
  obtain ⟨x505, σ503, hc504, h⟩ := cI_t h
  refine JL_cVi (pc := 1623) (ctX12_whole l E 31 x501 x502 rfl σ498 hc504) dL_law_1623 mlL_214 mvX12_whole rfl rfl (by decide) rfl (Nat.le_of_ble_eq_true rfl) ?_
  refine JL_icmp_eq (pc := 1626) 1802 dL_law_1626 (by decide) h (fun h => ?_) (fun h => ?_)
  · refine JL_iinc (pc := 1802) (L' := [(3, .int (v3 + (6 : Int32))), (0, .ref b), (1, .ref (e_a E 0 0)), (2, .ref (e_a E 31 0))]) 3 (v3 + (6 : Int32)) dL_law_1802 rfl (by rfl) (by decide) rfl ?_
    refine JL_goto (pc := 1805) 18 dL_law_1805 (by decide) ?_
    refine JL_sub (L' := [(0, .ref b), (1, .ref (e_a E 0 0)), (2, .ref (e_a E 31 0)), (3, .int (v3 + (6 : Int32)))]) [1, 2, 3, 0] rfl ?_
    exact hk18 (v3 + (6 : Int32)) σ503 h
  · refine JL_iconst (pc := 1629) (0 : Int32) dL_law_1629 (by decide) ?_
    cases h
def fL_law_1631 (Ln : Nat) (xs : Nat → Int32) (k18 : Int32 → Mm → Option Mm) (v3 : Int32) (σ : Mm) : Option Mm := g_xs Ln xs (v3 + (1 : Int32)) (fun x506 => g_xs Ln xs (v3 + (2 : Int32)) (fun x507 => c_I (fX11_broken 0 x506 x507 σ) (fun x510 σ508 => g_xs Ln xs (v3 + (1 : Int32)) (fun x511 => g_xs Ln xs (v3 + (2 : Int32)) (fun x512 => c_I (fX12_broken 31 x511 x512 σ508) (fun x515 σ513 => if x510 = x515 then (k18 (v3 + (6 : Int32)) σ513) else (none)))))))
set_option maxRecDepth 100000 in
set_option maxHeartbeats 4000000 in
theorem tL_law_1631 (l : Launch) (E : EV) (b : Nat) {τ : Mm} (Ln : Nat) (xs : Nat → Int32) (k18 : Int32 → Mm → Option Mm) (hk18 : ∀ (v3 : Int32) (σ : Mm), k18 v3 σ = some τ → JL l E b Ln xs σ 18 [(0, .ref b), (1, .ref (e_a E 0 0)), (2, .ref (e_a E 31 0)), (3, .int v3)] []) (v3 : Int32) (σ : Mm) (h : fL_law_1631 Ln xs k18 v3 σ = some τ) : JL l E b Ln xs σ 1631 [(0, .ref b), (1, .ref (e_a E 0 0)), (2, .ref (e_a E 31 0)), (3, .int v3)] [] := by
  unfold fL_law_1631 at h
  refine JL_aload_n (pc := 1631) 1 dL_law_1631 rfl ?_
  refine JL_aload_n (pc := 1632) 0 dL_law_1632 rfl ?_
  refine JL_iload_n (pc := 1633) 3 dL_law_1633 rfl ?_
  refine JL_iconst (pc := 1634) (1 : Int32) dL_law_1634 (by decide) ?_
  refine JL_iadd (pc := 1635) dL_law_1635 ?_
  refine JL_xald (pc := 1636) dL_law_1636 h (fun x506 h => ?_)
  refine JL_aload_n (pc := 1637) 0 dL_law_1637 rfl ?_
  refine JL_iload_n (pc := 1638) 3 dL_law_1638 rfl ?_
  refine JL_iconst (pc := 1639) (2 : Int32) dL_law_1639 (by decide) ?_
  refine JL_iadd (pc := 1640) dL_law_1640 ?_
  refine JL_xald (pc := 1641) dL_law_1641 h (fun x507 h => ?_)
  obtain ⟨x510, σ508, hc509, h⟩ := cI_t h
  refine JL_cVi (pc := 1642) (ctX11_broken l E 0 x506 x507 rfl σ hc509) dL_law_1642 mlL_215 mvX11_broken rfl rfl (by decide) rfl (Nat.le_of_ble_eq_true rfl) ?_
  refine JL_aload_n (pc := 1645) 2 dL_law_1645 rfl ?_
  refine JL_aload_n (pc := 1646) 0 dL_law_1646 rfl ?_
  refine JL_iload_n (pc := 1647) 3 dL_law_1647 rfl ?_
  refine JL_iconst (pc := 1648) (1 : Int32) dL_law_1648 (by decide) ?_
  refine JL_iadd (pc := 1649) dL_law_1649 ?_
  refine JL_xald (pc := 1650) dL_law_1650 h (fun x511 h => ?_)
  refine JL_aload_n (pc := 1651) 0 dL_law_1651 rfl ?_
  refine JL_iload_n (pc := 1652) 3 dL_law_1652 rfl ?_
  refine JL_iconst (pc := 1653) (2 : Int32) dL_law_1653 (by decide) ?_
  refine JL_iadd (pc := 1654) dL_law_1654 ?_
  refine JL_xald (pc := 1655) dL_law_1655 h (fun x512 h => ?_)
  obtain ⟨x515, σ513, hc514, h⟩ := cI_t h
  refine JL_cVi (pc := 1656) (ctX12_broken l E 31 x511 x512 rfl σ508 hc514) dL_law_1656 mlL_218 mvX12_broken rfl rfl (by decide) rfl (Nat.le_of_ble_eq_true rfl) ?_
  refine JL_icmp_eq (pc := 1659) 1802 dL_law_1659 (by decide) h (fun h => ?_) (fun h => ?_)
  · refine JL_iinc (pc := 1802) (L' := [(3, .int (v3 + (6 : Int32))), (0, .ref b), (1, .ref (e_a E 0 0)), (2, .ref (e_a E 31 0))]) 3 (v3 + (6 : Int32)) dL_law_1802 rfl (by rfl) (by decide) rfl ?_
    refine JL_goto (pc := 1805) 18 dL_law_1805 (by decide) ?_
    refine JL_sub (L' := [(0, .ref b), (1, .ref (e_a E 0 0)), (2, .ref (e_a E 31 0)), (3, .int (v3 + (6 : Int32)))]) [1, 2, 3, 0] rfl ?_
    exact hk18 (v3 + (6 : Int32)) σ513 h
  · refine JL_iconst (pc := 1662) (0 : Int32) dL_law_1662 (by decide) ?_
    cases h
def fL_law_1664 (Ln : Nat) (xs : Nat → Int32) (k18 : Int32 → Mm → Option Mm) (v3 : Int32) (σ : Mm) : Option Mm := g_xs Ln xs (v3 + (1 : Int32)) (fun x516 => c_I (fX11_run 0 x516 σ) (fun x519 σ517 => g_xs Ln xs (v3 + (1 : Int32)) (fun x520 => c_I (fX12_run 31 x520 σ517) (fun x523 σ521 => if x519 = x523 then (k18 (v3 + (6 : Int32)) σ521) else (none)))))
set_option maxRecDepth 100000 in
set_option maxHeartbeats 4000000 in
theorem tL_law_1664 (l : Launch) (E : EV) (b : Nat) {τ : Mm} (Ln : Nat) (xs : Nat → Int32) (k18 : Int32 → Mm → Option Mm) (hk18 : ∀ (v3 : Int32) (σ : Mm), k18 v3 σ = some τ → JL l E b Ln xs σ 18 [(0, .ref b), (1, .ref (e_a E 0 0)), (2, .ref (e_a E 31 0)), (3, .int v3)] []) (v3 : Int32) (σ : Mm) (h : fL_law_1664 Ln xs k18 v3 σ = some τ) : JL l E b Ln xs σ 1664 [(0, .ref b), (1, .ref (e_a E 0 0)), (2, .ref (e_a E 31 0)), (3, .int v3)] [] := by
  unfold fL_law_1664 at h
  refine JL_aload_n (pc := 1664) 1 dL_law_1664 rfl ?_
  refine JL_aload_n (pc := 1665) 0 dL_law_1665 rfl ?_
  refine JL_iload_n (pc := 1666) 3 dL_law_1666 rfl ?_
  refine JL_iconst (pc := 1667) (1 : Int32) dL_law_1667 (by decide) ?_
  refine JL_iadd (pc := 1668) dL_law_1668 ?_
  refine JL_xald (pc := 1669) dL_law_1669 h (fun x516 h => ?_)
  obtain ⟨x519, σ517, hc518, h⟩ := cI_t h
  refine JL_cVi (pc := 1670) (ctX11_run l E 0 x516 rfl σ hc518) dL_law_1670 mlL_219 mvX11_run rfl rfl (by decide) rfl (Nat.le_of_ble_eq_true rfl) ?_
  refine JL_aload_n (pc := 1673) 2 dL_law_1673 rfl ?_
  refine JL_aload_n (pc := 1674) 0 dL_law_1674 rfl ?_
  refine JL_iload_n (pc := 1675) 3 dL_law_1675 rfl ?_
  refine JL_iconst (pc := 1676) (1 : Int32) dL_law_1676 (by decide) ?_
  refine JL_iadd (pc := 1677) dL_law_1677 ?_
  refine JL_xald (pc := 1678) dL_law_1678 h (fun x520 h => ?_)
  obtain ⟨x523, σ521, hc522, h⟩ := cI_t h
  refine JL_cVi (pc := 1679) (ctX12_run l E 31 x520 rfl σ517 hc522) dL_law_1679 mlL_222 mvX12_run rfl rfl (by decide) rfl (Nat.le_of_ble_eq_true rfl) ?_
  refine JL_icmp_eq (pc := 1682) 1802 dL_law_1682 (by decide) h (fun h => ?_) (fun h => ?_)
  · refine JL_iinc (pc := 1802) (L' := [(3, .int (v3 + (6 : Int32))), (0, .ref b), (1, .ref (e_a E 0 0)), (2, .ref (e_a E 31 0))]) 3 (v3 + (6 : Int32)) dL_law_1802 rfl (by rfl) (by decide) rfl ?_
    refine JL_goto (pc := 1805) 18 dL_law_1805 (by decide) ?_
    refine JL_sub (L' := [(0, .ref b), (1, .ref (e_a E 0 0)), (2, .ref (e_a E 31 0)), (3, .int (v3 + (6 : Int32)))]) [1, 2, 3, 0] rfl ?_
    exact hk18 (v3 + (6 : Int32)) σ521 h
  · refine JL_iconst (pc := 1685) (0 : Int32) dL_law_1685 (by decide) ?_
    cases h
def fL_law_1687 (Ln : Nat) (xs : Nat → Int32) (k18 : Int32 → Mm → Option Mm) (v3 : Int32) (σ : Mm) : Option Mm := g_xs Ln xs (v3 + (1 : Int32)) (fun x524 => c_I (fX11_ran 0 x524 σ) (fun x527 σ525 => g_xs Ln xs (v3 + (1 : Int32)) (fun x528 => c_I (fX12_ran 31 x528 σ525) (fun x531 σ529 => if x527 = x531 then (k18 (v3 + (6 : Int32)) σ529) else (none)))))
set_option maxRecDepth 100000 in
set_option maxHeartbeats 4000000 in
theorem tL_law_1687 (l : Launch) (E : EV) (b : Nat) {τ : Mm} (Ln : Nat) (xs : Nat → Int32) (k18 : Int32 → Mm → Option Mm) (hk18 : ∀ (v3 : Int32) (σ : Mm), k18 v3 σ = some τ → JL l E b Ln xs σ 18 [(0, .ref b), (1, .ref (e_a E 0 0)), (2, .ref (e_a E 31 0)), (3, .int v3)] []) (v3 : Int32) (σ : Mm) (h : fL_law_1687 Ln xs k18 v3 σ = some τ) : JL l E b Ln xs σ 1687 [(0, .ref b), (1, .ref (e_a E 0 0)), (2, .ref (e_a E 31 0)), (3, .int v3)] [] := by
  unfold fL_law_1687 at h
  refine JL_aload_n (pc := 1687) 1 dL_law_1687 rfl ?_
  refine JL_aload_n (pc := 1688) 0 dL_law_1688 rfl ?_
  refine JL_iload_n (pc := 1689) 3 dL_law_1689 rfl ?_
  refine JL_iconst (pc := 1690) (1 : Int32) dL_law_1690 (by decide) ?_
  refine JL_iadd (pc := 1691) dL_law_1691 ?_
  refine JL_xald (pc := 1692) dL_law_1692 h (fun x524 h => ?_)
  obtain ⟨x527, σ525, hc526, h⟩ := cI_t h
  refine JL_cVi (pc := 1693) (ctX11_ran l E 0 x524 rfl σ hc526) dL_law_1693 mlL_223 mvX11_ran rfl rfl (by decide) rfl (Nat.le_of_ble_eq_true rfl) ?_
  refine JL_aload_n (pc := 1696) 2 dL_law_1696 rfl ?_
  refine JL_aload_n (pc := 1697) 0 dL_law_1697 rfl ?_
  refine JL_iload_n (pc := 1698) 3 dL_law_1698 rfl ?_
  refine JL_iconst (pc := 1699) (1 : Int32) dL_law_1699 (by decide) ?_
  refine JL_iadd (pc := 1700) dL_law_1700 ?_
  refine JL_xald (pc := 1701) dL_law_1701 h (fun x528 h => ?_)
  obtain ⟨x531, σ529, hc530, h⟩ := cI_t h
  refine JL_cVi (pc := 1702) (ctX12_ran l E 31 x528 rfl σ525 hc530) dL_law_1702 mlL_226 mvX12_ran rfl rfl (by decide) rfl (Nat.le_of_ble_eq_true rfl) ?_
  refine JL_icmp_eq (pc := 1705) 1802 dL_law_1705 (by decide) h (fun h => ?_) (fun h => ?_)
  · refine JL_iinc (pc := 1802) (L' := [(3, .int (v3 + (6 : Int32))), (0, .ref b), (1, .ref (e_a E 0 0)), (2, .ref (e_a E 31 0))]) 3 (v3 + (6 : Int32)) dL_law_1802 rfl (by rfl) (by decide) rfl ?_
    refine JL_goto (pc := 1805) 18 dL_law_1805 (by decide) ?_
    refine JL_sub (L' := [(0, .ref b), (1, .ref (e_a E 0 0)), (2, .ref (e_a E 31 0)), (3, .int (v3 + (6 : Int32)))]) [1, 2, 3, 0] rfl ?_
    exact hk18 (v3 + (6 : Int32)) σ529 h
  · refine JL_iconst (pc := 1708) (0 : Int32) dL_law_1708 (by decide) ?_
    cases h
def fL_law_1710 (Ln : Nat) (xs : Nat → Int32) (k18 : Int32 → Mm → Option Mm) (v3 : Int32) (σ : Mm) : Option Mm := g_xs Ln xs (v3 + (1 : Int32)) (fun x532 => c_I (fX11_ranTo 0 x532 σ) (fun x535 σ533 => g_xs Ln xs (v3 + (1 : Int32)) (fun x536 => c_I (fX12_ranTo 31 x536 σ533) (fun x539 σ537 => if x535 = x539 then (k18 (v3 + (6 : Int32)) σ537) else (none)))))
set_option maxRecDepth 100000 in
set_option maxHeartbeats 4000000 in
theorem tL_law_1710 (l : Launch) (E : EV) (b : Nat) {τ : Mm} (Ln : Nat) (xs : Nat → Int32) (k18 : Int32 → Mm → Option Mm) (hk18 : ∀ (v3 : Int32) (σ : Mm), k18 v3 σ = some τ → JL l E b Ln xs σ 18 [(0, .ref b), (1, .ref (e_a E 0 0)), (2, .ref (e_a E 31 0)), (3, .int v3)] []) (v3 : Int32) (σ : Mm) (h : fL_law_1710 Ln xs k18 v3 σ = some τ) : JL l E b Ln xs σ 1710 [(0, .ref b), (1, .ref (e_a E 0 0)), (2, .ref (e_a E 31 0)), (3, .int v3)] [] := by
  unfold fL_law_1710 at h
  refine JL_aload_n (pc := 1710) 1 dL_law_1710 rfl ?_
  refine JL_aload_n (pc := 1711) 0 dL_law_1711 rfl ?_
  refine JL_iload_n (pc := 1712) 3 dL_law_1712 rfl ?_
  refine JL_iconst (pc := 1713) (1 : Int32) dL_law_1713 (by decide) ?_
  refine JL_iadd (pc := 1714) dL_law_1714 ?_
  refine JL_xald (pc := 1715) dL_law_1715 h (fun x532 h => ?_)
  obtain ⟨x535, σ533, hc534, h⟩ := cI_t h
  refine JL_cVi (pc := 1716) (ctX11_ranTo l E 0 x532 rfl σ hc534) dL_law_1716 mlL_227 mvX11_ranTo rfl rfl (by decide) rfl (Nat.le_of_ble_eq_true rfl) ?_
  refine JL_aload_n (pc := 1719) 2 dL_law_1719 rfl ?_
  refine JL_aload_n (pc := 1720) 0 dL_law_1720 rfl ?_
  refine JL_iload_n (pc := 1721) 3 dL_law_1721 rfl ?_
  refine JL_iconst (pc := 1722) (1 : Int32) dL_law_1722 (by decide) ?_
  refine JL_iadd (pc := 1723) dL_law_1723 ?_
  refine JL_xald (pc := 1724) dL_law_1724 h (fun x536 h => ?_)
  obtain ⟨x539, σ537, hc538, h⟩ := cI_t h
  refine JL_cVi (pc := 1725) (ctX12_ranTo l E 31 x536 rfl σ533 hc538) dL_law_1725 mlL_230 mvX12_ranTo rfl rfl (by decide) rfl (Nat.le_of_ble_eq_true rfl) ?_
  refine JL_icmp_eq (pc := 1728) 1802 dL_law_1728 (by decide) h (fun h => ?_) (fun h => ?_)
  · refine JL_iinc (pc := 1802) (L' := [(3, .int (v3 + (6 : Int32))), (0, .ref b), (1, .ref (e_a E 0 0)), (2, .ref (e_a E 31 0))]) 3 (v3 + (6 : Int32)) dL_law_1802 rfl (by rfl) (by decide) rfl ?_
    refine JL_goto (pc := 1805) 18 dL_law_1805 (by decide) ?_
    refine JL_sub (L' := [(0, .ref b), (1, .ref (e_a E 0 0)), (2, .ref (e_a E 31 0)), (3, .int (v3 + (6 : Int32)))]) [1, 2, 3, 0] rfl ?_
    exact hk18 (v3 + (6 : Int32)) σ537 h
  · refine JL_iconst (pc := 1731) (0 : Int32) dL_law_1731 (by decide) ?_
    cases h
def fL_law_1733 (Ln : Nat) (xs : Nat → Int32) (k18 : Int32 → Mm → Option Mm) (v3 : Int32) (σ : Mm) : Option Mm := g_xs Ln xs (v3 + (1 : Int32)) (fun x540 => g_xs Ln xs (v3 + (2 : Int32)) (fun x541 => g_xs Ln xs (v3 + (3 : Int32)) (fun x542 => c_I (fX11_odds 0 x540 x541 x542 σ) (fun x545 σ543 => g_xs Ln xs (v3 + (1 : Int32)) (fun x546 => g_xs Ln xs (v3 + (2 : Int32)) (fun x547 => g_xs Ln xs (v3 + (3 : Int32)) (fun x548 => c_I (fX12_odds 31 x546 x547 x548 σ543) (fun x551 σ549 => if x545 = x551 then (k18 (v3 + (6 : Int32)) σ549) else (none)))))))))
set_option maxRecDepth 100000 in
set_option maxHeartbeats 4000000 in
theorem tL_law_1733 (l : Launch) (E : EV) (b : Nat) {τ : Mm} (Ln : Nat) (xs : Nat → Int32) (k18 : Int32 → Mm → Option Mm) (hk18 : ∀ (v3 : Int32) (σ : Mm), k18 v3 σ = some τ → JL l E b Ln xs σ 18 [(0, .ref b), (1, .ref (e_a E 0 0)), (2, .ref (e_a E 31 0)), (3, .int v3)] []) (v3 : Int32) (σ : Mm) (h : fL_law_1733 Ln xs k18 v3 σ = some τ) : JL l E b Ln xs σ 1733 [(0, .ref b), (1, .ref (e_a E 0 0)), (2, .ref (e_a E 31 0)), (3, .int v3)] [] := by
  unfold fL_law_1733 at h
  refine JL_aload_n (pc := 1733) 1 dL_law_1733 rfl ?_
  refine JL_aload_n (pc := 1734) 0 dL_law_1734 rfl ?_
  refine JL_iload_n (pc := 1735) 3 dL_law_1735 rfl ?_
  refine JL_iconst (pc := 1736) (1 : Int32) dL_law_1736 (by decide) ?_
  refine JL_iadd (pc := 1737) dL_law_1737 ?_
  refine JL_xald (pc := 1738) dL_law_1738 h (fun x540 h => ?_)
  refine JL_aload_n (pc := 1739) 0 dL_law_1739 rfl ?_
  refine JL_iload_n (pc := 1740) 3 dL_law_1740 rfl ?_
  refine JL_iconst (pc := 1741) (2 : Int32) dL_law_1741 (by decide) ?_
  refine JL_iadd (pc := 1742) dL_law_1742 ?_
  refine JL_xald (pc := 1743) dL_law_1743 h (fun x541 h => ?_)
  refine JL_aload_n (pc := 1744) 0 dL_law_1744 rfl ?_
  refine JL_iload_n (pc := 1745) 3 dL_law_1745 rfl ?_
  refine JL_iconst (pc := 1746) (3 : Int32) dL_law_1746 (by decide) ?_
  refine JL_iadd (pc := 1747) dL_law_1747 ?_
  refine JL_xald (pc := 1748) dL_law_1748 h (fun x542 h => ?_)
  obtain ⟨x545, σ543, hc544, h⟩ := cI_t h
  refine JL_cVi (pc := 1749) (ctX11_odds l E 0 x540 x541 x542 rfl σ hc544) dL_law_1749 mlL_231 mvX11_odds rfl rfl (by decide) rfl (Nat.le_of_ble_eq_true rfl) ?_
  refine JL_aload_n (pc := 1752) 2 dL_law_1752 rfl ?_
  refine JL_aload_n (pc := 1753) 0 dL_law_1753 rfl ?_
  refine JL_iload_n (pc := 1754) 3 dL_law_1754 rfl ?_
  refine JL_iconst (pc := 1755) (1 : Int32) dL_law_1755 (by decide) ?_
  refine JL_iadd (pc := 1756) dL_law_1756 ?_
  refine JL_xald (pc := 1757) dL_law_1757 h (fun x546 h => ?_)
  refine JL_aload_n (pc := 1758) 0 dL_law_1758 rfl ?_
  refine JL_iload_n (pc := 1759) 3 dL_law_1759 rfl ?_
  refine JL_iconst (pc := 1760) (2 : Int32) dL_law_1760 (by decide) ?_
  refine JL_iadd (pc := 1761) dL_law_1761 ?_
  refine JL_xald (pc := 1762) dL_law_1762 h (fun x547 h => ?_)
  refine JL_aload_n (pc := 1763) 0 dL_law_1763 rfl ?_
  refine JL_iload_n (pc := 1764) 3 dL_law_1764 rfl ?_
  refine JL_iconst (pc := 1765) (3 : Int32) dL_law_1765 (by decide) ?_
  refine JL_iadd (pc := 1766) dL_law_1766 ?_
  refine JL_xald (pc := 1767) dL_law_1767 h (fun x548 h => ?_)
  obtain ⟨x551, σ549, hc550, h⟩ := cI_t h
  refine JL_cVi (pc := 1768) (ctX12_odds l E 31 x546 x547 x548 rfl σ543 hc550) dL_law_1768 mlL_234 mvX12_odds rfl rfl (by decide) rfl (Nat.le_of_ble_eq_true rfl) ?_
  refine JL_icmp_eq (pc := 1771) 1802 dL_law_1771 (by decide) h (fun h => ?_) (fun h => ?_)
  · refine JL_iinc (pc := 1802) (L' := [(3, .int (v3 + (6 : Int32))), (0, .ref b), (1, .ref (e_a E 0 0)), (2, .ref (e_a E 31 0))]) 3 (v3 + (6 : Int32)) dL_law_1802 rfl (by rfl) (by decide) rfl ?_
    refine JL_goto (pc := 1805) 18 dL_law_1805 (by decide) ?_
    refine JL_sub (L' := [(0, .ref b), (1, .ref (e_a E 0 0)), (2, .ref (e_a E 31 0)), (3, .int (v3 + (6 : Int32)))]) [1, 2, 3, 0] rfl ?_
    exact hk18 (v3 + (6 : Int32)) σ549 h
  · refine JL_iconst (pc := 1774) (0 : Int32) dL_law_1774 (by decide) ?_
    cases h
def fL_law_1776 (Ln : Nat) (xs : Nat → Int32) (k18 : Int32 → Mm → Option Mm) (v3 : Int32) (σ : Mm) : Option Mm := c_I (fX11_mark 0 σ) (fun x554 σ552 => c_I (fX12_mark 31 σ552) (fun x557 σ555 => if x554 = x557 then (k18 (v3 + (6 : Int32)) σ555) else (none)))
set_option maxRecDepth 100000 in
set_option maxHeartbeats 4000000 in
theorem tL_law_1776 (l : Launch) (E : EV) (b : Nat) {τ : Mm} (Ln : Nat) (xs : Nat → Int32) (k18 : Int32 → Mm → Option Mm) (hk18 : ∀ (v3 : Int32) (σ : Mm), k18 v3 σ = some τ → JL l E b Ln xs σ 18 [(0, .ref b), (1, .ref (e_a E 0 0)), (2, .ref (e_a E 31 0)), (3, .int v3)] []) (v3 : Int32) (σ : Mm) (h : fL_law_1776 Ln xs k18 v3 σ = some τ) : JL l E b Ln xs σ 1776 [(0, .ref b), (1, .ref (e_a E 0 0)), (2, .ref (e_a E 31 0)), (3, .int v3)] [] := by
  unfold fL_law_1776 at h
  refine JL_aload_n (pc := 1776) 1 dL_law_1776 rfl ?_
  obtain ⟨x554, σ552, hc553, h⟩ := cI_t h
  refine JL_cVi (pc := 1777) (ctX11_mark l E 0 rfl σ hc553) dL_law_1777 mlL_235 mvX11_mark rfl rfl (by decide) rfl (Nat.le_of_ble_eq_true rfl) ?_
  refine JL_aload_n (pc := 1780) 2 dL_law_1780 rfl ?_
  obtain ⟨x557, σ555, hc556, h⟩ := cI_t h
  refine JL_cVi (pc := 1781) (ctX12_mark l E 31 rfl σ552 hc556) dL_law_1781 mlL_238 mvX12_mark rfl rfl (by decide) rfl (Nat.le_of_ble_eq_true rfl) ?_
  refine JL_icmp_eq (pc := 1784) 1802 dL_law_1784 (by decide) h (fun h => ?_) (fun h => ?_)
  · refine JL_iinc (pc := 1802) (L' := [(3, .int (v3 + (6 : Int32))), (0, .ref b), (1, .ref (e_a E 0 0)), (2, .ref (e_a E 31 0))]) 3 (v3 + (6 : Int32)) dL_law_1802 rfl (by rfl) (by decide) rfl ?_
    refine JL_goto (pc := 1805) 18 dL_law_1805 (by decide) ?_
    refine JL_sub (L' := [(0, .ref b), (1, .ref (e_a E 0 0)), (2, .ref (e_a E 31 0)), (3, .int (v3 + (6 : Int32)))]) [1, 2, 3, 0] rfl ?_
    exact hk18 (v3 + (6 : Int32)) σ555 h
  · refine JL_iconst (pc := 1787) (0 : Int32) dL_law_1787 (by decide) ?_
    cases h
def fL_law_1789 (Ln : Nat) (xs : Nat → Int32) (k18 : Int32 → Mm → Option Mm) (v3 : Int32) (σ : Mm) : Option Mm := c_I (fX11_back 0 σ) (fun x560 σ558 => c_I (fX12_back 31 σ558) (fun x563 σ561 => if x560 = x563 then (k18 (v3 + (6 : Int32)) σ561) else (none)))
set_option maxRecDepth 100000 in
set_option maxHeartbeats 4000000 in
theorem tL_law_1789 (l : Launch) (E : EV) (b : Nat) {τ : Mm} (Ln : Nat) (xs : Nat → Int32) (k18 : Int32 → Mm → Option Mm) (hk18 : ∀ (v3 : Int32) (σ : Mm), k18 v3 σ = some τ → JL l E b Ln xs σ 18 [(0, .ref b), (1, .ref (e_a E 0 0)), (2, .ref (e_a E 31 0)), (3, .int v3)] []) (v3 : Int32) (σ : Mm) (h : fL_law_1789 Ln xs k18 v3 σ = some τ) : JL l E b Ln xs σ 1789 [(0, .ref b), (1, .ref (e_a E 0 0)), (2, .ref (e_a E 31 0)), (3, .int v3)] [] := by
  unfold fL_law_1789 at h
  refine JL_aload_n (pc := 1789) 1 dL_law_1789 rfl ?_
  obtain ⟨x560, σ558, hc559, h⟩ := cI_t h
  refine JL_cVi (pc := 1790) (ctX11_back l E 0 rfl σ hc559) dL_law_1790 mlL_239 mvX11_back rfl rfl (by decide) rfl (Nat.le_of_ble_eq_true rfl) ?_
  refine JL_aload_n (pc := 1793) 2 dL_law_1793 rfl ?_
  obtain ⟨x563, σ561, hc562, h⟩ := cI_t h
  refine JL_cVi (pc := 1794) (ctX12_back l E 31 rfl σ558 hc562) dL_law_1794 mlL_242 mvX12_back rfl rfl (by decide) rfl (Nat.le_of_ble_eq_true rfl) ?_
  refine JL_icmp_eq (pc := 1797) 1802 dL_law_1797 (by decide) h (fun h => ?_) (fun h => ?_)
  · refine JL_iinc (pc := 1802) (L' := [(3, .int (v3 + (6 : Int32))), (0, .ref b), (1, .ref (e_a E 0 0)), (2, .ref (e_a E 31 0))]) 3 (v3 + (6 : Int32)) dL_law_1802 rfl (by rfl) (by decide) rfl ?_
    refine JL_goto (pc := 1805) 18 dL_law_1805 (by decide) ?_
    refine JL_sub (L' := [(0, .ref b), (1, .ref (e_a E 0 0)), (2, .ref (e_a E 31 0)), (3, .int (v3 + (6 : Int32)))]) [1, 2, 3, 0] rfl ?_
    exact hk18 (v3 + (6 : Int32)) σ561 h
  · refine JL_iconst (pc := 1800) (0 : Int32) dL_law_1800 (by decide) ?_
    cases h
def fL_law_18 (Ln : Nat) (xs : Nat → Int32) : Nat → Int32 → Mm → Option Mm
  | 0, _, _ => none
  | n + 1, v3, σ => if ((Int32.ofNat Ln) - (6 : Int32)) < v3 then (some σ) else (g_xs Ln xs v3 (fun x1 => if (x1 &&& (63 : Int32)) = (0 : Int32) then (fL_law_264 Ln xs (fL_law_18 Ln xs n) v3 σ) else if (x1 &&& (63 : Int32)) = (1 : Int32) then (fL_law_277 Ln xs (fL_law_18 Ln xs n) v3 σ) else if (x1 &&& (63 : Int32)) = (2 : Int32) then (fL_law_291 Ln xs (fL_law_18 Ln xs n) v3 σ) else if (x1 &&& (63 : Int32)) = (3 : Int32) then (fL_law_305 Ln xs (fL_law_18 Ln xs n) v3 σ) else if (x1 &&& (63 : Int32)) = (4 : Int32) then (fL_law_348 Ln xs (fL_law_18 Ln xs n) v3 σ) else if (x1 &&& (63 : Int32)) = (5 : Int32) then (fL_law_421 Ln xs (fL_law_18 Ln xs n) v3 σ) else if (x1 &&& (63 : Int32)) = (6 : Int32) then (fL_law_455 Ln xs (fL_law_18 Ln xs n) v3 σ) else if (x1 &&& (63 : Int32)) = (7 : Int32) then (fL_law_518 Ln xs (fL_law_18 Ln xs n) v3 σ) else if (x1 &&& (63 : Int32)) = (8 : Int32) then (fL_law_581 Ln xs (fL_law_18 Ln xs n) v3 σ) else if (x1 &&& (63 : Int32)) = (9 : Int32) then (fL_law_604 Ln xs (fL_law_18 Ln xs n) v3 σ) else if (x1 &&& (63 : Int32)) = (10 : Int32) then (fL_law_627 Ln xs (fL_law_18 Ln xs n) v3 σ) else if (x1 &&& (63 : Int32)) = (11 : Int32) then (fL_law_650 Ln xs (fL_law_18 Ln xs n) v3 σ) else if (x1 &&& (63 : Int32)) = (12 : Int32) then (fL_law_673 Ln xs (fL_law_18 Ln xs n) v3 σ) else if (x1 &&& (63 : Int32)) = (13 : Int32) then (fL_law_706 Ln xs (fL_law_18 Ln xs n) v3 σ) else if (x1 &&& (63 : Int32)) = (14 : Int32) then (fL_law_739 Ln xs (fL_law_18 Ln xs n) v3 σ) else if (x1 &&& (63 : Int32)) = (15 : Int32) then (fL_law_762 Ln xs (fL_law_18 Ln xs n) v3 σ) else if (x1 &&& (63 : Int32)) = (16 : Int32) then (fL_law_785 Ln xs (fL_law_18 Ln xs n) v3 σ) else if (x1 &&& (63 : Int32)) = (17 : Int32) then (fL_law_828 Ln xs (fL_law_18 Ln xs n) v3 σ) else if (x1 &&& (63 : Int32)) = (18 : Int32) then (fL_law_861 Ln xs (fL_law_18 Ln xs n) v3 σ) else if (x1 &&& (63 : Int32)) = (19 : Int32) then (fL_law_910 Ln xs (fL_law_18 Ln xs n) v3 σ) else if (x1 &&& (63 : Int32)) = (20 : Int32) then (fL_law_959 Ln xs (fL_law_18 Ln xs n) v3 σ) else if (x1 &&& (63 : Int32)) = (21 : Int32) then (fL_law_982 Ln xs (fL_law_18 Ln xs n) v3 σ) else if (x1 &&& (63 : Int32)) = (22 : Int32) then (fL_law_1015 Ln xs (fL_law_18 Ln xs n) v3 σ) else if (x1 &&& (63 : Int32)) = (23 : Int32) then (fL_law_1048 Ln xs (fL_law_18 Ln xs n) v3 σ) else if (x1 &&& (63 : Int32)) = (24 : Int32) then (fL_law_1071 Ln xs (fL_law_18 Ln xs n) v3 σ) else if (x1 &&& (63 : Int32)) = (25 : Int32) then (fL_law_1104 Ln xs (fL_law_18 Ln xs n) v3 σ) else if (x1 &&& (63 : Int32)) = (26 : Int32) then (fL_law_1117 Ln xs (fL_law_18 Ln xs n) v3 σ) else if (x1 &&& (63 : Int32)) = (27 : Int32) then (fL_law_1141 Ln xs (fL_law_18 Ln xs n) v3 σ) else if (x1 &&& (63 : Int32)) = (28 : Int32) then (fL_law_1174 Ln xs (fL_law_18 Ln xs n) v3 σ) else if (x1 &&& (63 : Int32)) = (29 : Int32) then (fL_law_1207 Ln xs (fL_law_18 Ln xs n) v3 σ) else if (x1 &&& (63 : Int32)) = (30 : Int32) then (fL_law_1230 Ln xs (fL_law_18 Ln xs n) v3 σ) else if (x1 &&& (63 : Int32)) = (31 : Int32) then (fL_law_1253 Ln xs (fL_law_18 Ln xs n) v3 σ) else if (x1 &&& (63 : Int32)) = (32 : Int32) then (fL_law_1286 Ln xs (fL_law_18 Ln xs n) v3 σ) else if (x1 &&& (63 : Int32)) = (33 : Int32) then (fL_law_1319 Ln xs (fL_law_18 Ln xs n) v3 σ) else if (x1 &&& (63 : Int32)) = (34 : Int32) then (fL_law_1352 Ln xs (fL_law_18 Ln xs n) v3 σ) else if (x1 &&& (63 : Int32)) = (35 : Int32) then (fL_law_1385 Ln xs (fL_law_18 Ln xs n) v3 σ) else if (x1 &&& (63 : Int32)) = (36 : Int32) then (fL_law_1408 Ln xs (fL_law_18 Ln xs n) v3 σ) else if (x1 &&& (63 : Int32)) = (37 : Int32) then (fL_law_1421 Ln xs (fL_law_18 Ln xs n) v3 σ) else if (x1 &&& (63 : Int32)) = (38 : Int32) then (fL_law_1434 Ln xs (fL_law_18 Ln xs n) v3 σ) else if (x1 &&& (63 : Int32)) = (39 : Int32) then (fL_law_1447 Ln xs (fL_law_18 Ln xs n) v3 σ) else if (x1 &&& (63 : Int32)) = (40 : Int32) then (fL_law_1460 Ln xs (fL_law_18 Ln xs n) v3 σ) else if (x1 &&& (63 : Int32)) = (41 : Int32) then (fL_law_1483 Ln xs (fL_law_18 Ln xs n) v3 σ) else if (x1 &&& (63 : Int32)) = (42 : Int32) then (fL_law_1516 Ln xs (fL_law_18 Ln xs n) v3 σ) else if (x1 &&& (63 : Int32)) = (43 : Int32) then (fL_law_1529 Ln xs (fL_law_18 Ln xs n) v3 σ) else if (x1 &&& (63 : Int32)) = (44 : Int32) then (fL_law_1552 Ln xs (fL_law_18 Ln xs n) v3 σ) else if (x1 &&& (63 : Int32)) = (45 : Int32) then (fL_law_1575 Ln xs (fL_law_18 Ln xs n) v3 σ) else if (x1 &&& (63 : Int32)) = (46 : Int32) then (fL_law_1598 Ln xs (fL_law_18 Ln xs n) v3 σ) else if (x1 &&& (63 : Int32)) = (47 : Int32) then (fL_law_1631 Ln xs (fL_law_18 Ln xs n) v3 σ) else if (x1 &&& (63 : Int32)) = (48 : Int32) then (fL_law_1664 Ln xs (fL_law_18 Ln xs n) v3 σ) else if (x1 &&& (63 : Int32)) = (49 : Int32) then (fL_law_1687 Ln xs (fL_law_18 Ln xs n) v3 σ) else if (x1 &&& (63 : Int32)) = (50 : Int32) then (fL_law_1710 Ln xs (fL_law_18 Ln xs n) v3 σ) else if (x1 &&& (63 : Int32)) = (51 : Int32) then (fL_law_1733 Ln xs (fL_law_18 Ln xs n) v3 σ) else if (x1 &&& (63 : Int32)) = (52 : Int32) then (fL_law_1776 Ln xs (fL_law_18 Ln xs n) v3 σ) else if (x1 &&& (63 : Int32)) = (53 : Int32) then (fL_law_1789 Ln xs (fL_law_18 Ln xs n) v3 σ) else ((fL_law_18 Ln xs n) (v3 + (6 : Int32)) σ)))
set_option maxRecDepth 100000 in
set_option maxHeartbeats 4000000 in
theorem tL_law_18 (l : Launch) (E : EV) (b : Nat) {τ : Mm} (Ln : Nat) (xs : Nat → Int32) : ∀ (n : Nat) (v3 : Int32) (σ : Mm), fL_law_18 Ln xs n v3 σ = some τ → JL l E b Ln xs σ 18 [(0, .ref b), (1, .ref (e_a E 0 0)), (2, .ref (e_a E 31 0)), (3, .int v3)] [] := by
  intro n
  induction n with
  | zero => intro v3 σ h; rw [fL_law_18] at h; cases h
  | succ n ih =>
    intro v3 σ h
    rw [fL_law_18] at h
    refine JL_iload_n (pc := 18) 3 dL_law_18 rfl ?_
    refine JL_aload_n (pc := 19) 0 dL_law_19 rfl ?_
    refine JL_xlen (pc := 20) dL_law_20 ?_
    refine JL_bipush (pc := 21) (6 : Int32) dL_law_21 (by decide) ?_
    refine JL_isub (pc := 23) dL_law_23 ?_
    refine JL_icmp_gt (pc := 24) 1808 dL_law_24 (by decide) h (fun h => ?_) (fun h => ?_)
    · refine JL_iconst (pc := 1808) (1 : Int32) dL_law_1808 (by decide) ?_
      cases h
      exact JL_ret (pc := 1809) dL_law_1809
    · refine JL_aload_n (pc := 27) 0 dL_law_27 rfl ?_
      refine JL_iload_n (pc := 28) 3 dL_law_28 rfl ?_
      refine JL_xald (pc := 29) dL_law_29 h (fun x1 h => ?_)
      refine JL_bipush (pc := 30) (63 : Int32) dL_law_30 (by decide) ?_
      refine JL_iand (pc := 32) dL_law_32 ?_
      by_cases hs2 : (x1 &&& (63 : Int32)) = (0 : Int32)
      · rw [if_pos hs2] at h
        refine JL_tableIn (pc := 33) 264 dL_law_33 (by rw [hs2]; decide) (by rw [hs2]; decide) (by rw [hs2]; rfl) (by decide) ?_
        refine JL_sub (L' := [(0, .ref b), (1, .ref (e_a E 0 0)), (2, .ref (e_a E 31 0)), (3, .int v3)]) [0, 1, 2, 3] rfl ?_
        exact tL_law_264 l E b Ln xs (fL_law_18 Ln xs n) ih v3 σ h
      rw [if_neg hs2] at h
      by_cases hs3 : (x1 &&& (63 : Int32)) = (1 : Int32)
      · rw [if_pos hs3] at h
        refine JL_tableIn (pc := 33) 277 dL_law_33 (by rw [hs3]; decide) (by rw [hs3]; decide) (by rw [hs3]; rfl) (by decide) ?_
        refine JL_sub (L' := [(0, .ref b), (1, .ref (e_a E 0 0)), (2, .ref (e_a E 31 0)), (3, .int v3)]) [0, 1, 2, 3] rfl ?_
        exact tL_law_277 l E b Ln xs (fL_law_18 Ln xs n) ih v3 σ h
      rw [if_neg hs3] at h
      by_cases hs4 : (x1 &&& (63 : Int32)) = (2 : Int32)
      · rw [if_pos hs4] at h
        refine JL_tableIn (pc := 33) 291 dL_law_33 (by rw [hs4]; decide) (by rw [hs4]; decide) (by rw [hs4]; rfl) (by decide) ?_
        refine JL_sub (L' := [(0, .ref b), (1, .ref (e_a E 0 0)), (2, .ref (e_a E 31 0)), (3, .int v3)]) [0, 1, 2, 3] rfl ?_
        exact tL_law_291 l E b Ln xs (fL_law_18 Ln xs n) ih v3 σ h
      rw [if_neg hs4] at h
      by_cases hs5 : (x1 &&& (63 : Int32)) = (3 : Int32)
      · rw [if_pos hs5] at h
        refine JL_tableIn (pc := 33) 305 dL_law_33 (by rw [hs5]; decide) (by rw [hs5]; decide) (by rw [hs5]; rfl) (by decide) ?_
        refine JL_sub (L' := [(0, .ref b), (1, .ref (e_a E 0 0)), (2, .ref (e_a E 31 0)), (3, .int v3)]) [0, 1, 2, 3] rfl ?_
        exact tL_law_305 l E b Ln xs (fL_law_18 Ln xs n) ih v3 σ h
      rw [if_neg hs5] at h
      by_cases hs6 : (x1 &&& (63 : Int32)) = (4 : Int32)
      · rw [if_pos hs6] at h
        refine JL_tableIn (pc := 33) 348 dL_law_33 (by rw [hs6]; decide) (by rw [hs6]; decide) (by rw [hs6]; rfl) (by decide) ?_
        refine JL_sub (L' := [(0, .ref b), (1, .ref (e_a E 0 0)), (2, .ref (e_a E 31 0)), (3, .int v3)]) [0, 1, 2, 3] rfl ?_
        exact tL_law_348 l E b Ln xs (fL_law_18 Ln xs n) ih v3 σ h
      rw [if_neg hs6] at h
      by_cases hs7 : (x1 &&& (63 : Int32)) = (5 : Int32)
      · rw [if_pos hs7] at h
        refine JL_tableIn (pc := 33) 421 dL_law_33 (by rw [hs7]; decide) (by rw [hs7]; decide) (by rw [hs7]; rfl) (by decide) ?_
        refine JL_sub (L' := [(0, .ref b), (1, .ref (e_a E 0 0)), (2, .ref (e_a E 31 0)), (3, .int v3)]) [0, 1, 2, 3] rfl ?_
        exact tL_law_421 l E b Ln xs (fL_law_18 Ln xs n) ih v3 σ h
      rw [if_neg hs7] at h
      by_cases hs8 : (x1 &&& (63 : Int32)) = (6 : Int32)
      · rw [if_pos hs8] at h
        refine JL_tableIn (pc := 33) 455 dL_law_33 (by rw [hs8]; decide) (by rw [hs8]; decide) (by rw [hs8]; rfl) (by decide) ?_
        refine JL_sub (L' := [(0, .ref b), (1, .ref (e_a E 0 0)), (2, .ref (e_a E 31 0)), (3, .int v3)]) [0, 1, 2, 3] rfl ?_
        exact tL_law_455 l E b Ln xs (fL_law_18 Ln xs n) ih v3 σ h
      rw [if_neg hs8] at h
      by_cases hs9 : (x1 &&& (63 : Int32)) = (7 : Int32)
      · rw [if_pos hs9] at h
        refine JL_tableIn (pc := 33) 518 dL_law_33 (by rw [hs9]; decide) (by rw [hs9]; decide) (by rw [hs9]; rfl) (by decide) ?_
        refine JL_sub (L' := [(0, .ref b), (1, .ref (e_a E 0 0)), (2, .ref (e_a E 31 0)), (3, .int v3)]) [0, 1, 2, 3] rfl ?_
        exact tL_law_518 l E b Ln xs (fL_law_18 Ln xs n) ih v3 σ h
      rw [if_neg hs9] at h
      by_cases hs10 : (x1 &&& (63 : Int32)) = (8 : Int32)
      · rw [if_pos hs10] at h
        refine JL_tableIn (pc := 33) 581 dL_law_33 (by rw [hs10]; decide) (by rw [hs10]; decide) (by rw [hs10]; rfl) (by decide) ?_
        refine JL_sub (L' := [(0, .ref b), (1, .ref (e_a E 0 0)), (2, .ref (e_a E 31 0)), (3, .int v3)]) [0, 1, 2, 3] rfl ?_
        exact tL_law_581 l E b Ln xs (fL_law_18 Ln xs n) ih v3 σ h
      rw [if_neg hs10] at h
      by_cases hs11 : (x1 &&& (63 : Int32)) = (9 : Int32)
      · rw [if_pos hs11] at h
        refine JL_tableIn (pc := 33) 604 dL_law_33 (by rw [hs11]; decide) (by rw [hs11]; decide) (by rw [hs11]; rfl) (by decide) ?_
        refine JL_sub (L' := [(0, .ref b), (1, .ref (e_a E 0 0)), (2, .ref (e_a E 31 0)), (3, .int v3)]) [0, 1, 2, 3] rfl ?_
        exact tL_law_604 l E b Ln xs (fL_law_18 Ln xs n) ih v3 σ h
      rw [if_neg hs11] at h
      by_cases hs12 : (x1 &&& (63 : Int32)) = (10 : Int32)
      · rw [if_pos hs12] at h
        refine JL_tableIn (pc := 33) 627 dL_law_33 (by rw [hs12]; decide) (by rw [hs12]; decide) (by rw [hs12]; rfl) (by decide) ?_
        refine JL_sub (L' := [(0, .ref b), (1, .ref (e_a E 0 0)), (2, .ref (e_a E 31 0)), (3, .int v3)]) [0, 1, 2, 3] rfl ?_
        exact tL_law_627 l E b Ln xs (fL_law_18 Ln xs n) ih v3 σ h
      rw [if_neg hs12] at h
      by_cases hs13 : (x1 &&& (63 : Int32)) = (11 : Int32)
      · rw [if_pos hs13] at h
        refine JL_tableIn (pc := 33) 650 dL_law_33 (by rw [hs13]; decide) (by rw [hs13]; decide) (by rw [hs13]; rfl) (by decide) ?_
        refine JL_sub (L' := [(0, .ref b), (1, .ref (e_a E 0 0)), (2, .ref (e_a E 31 0)), (3, .int v3)]) [0, 1, 2, 3] rfl ?_
        exact tL_law_650 l E b Ln xs (fL_law_18 Ln xs n) ih v3 σ h
      rw [if_neg hs13] at h
      by_cases hs14 : (x1 &&& (63 : Int32)) = (12 : Int32)
      · rw [if_pos hs14] at h
        refine JL_tableIn (pc := 33) 673 dL_law_33 (by rw [hs14]; decide) (by rw [hs14]; decide) (by rw [hs14]; rfl) (by decide) ?_
        refine JL_sub (L' := [(0, .ref b), (1, .ref (e_a E 0 0)), (2, .ref (e_a E 31 0)), (3, .int v3)]) [0, 1, 2, 3] rfl ?_
        exact tL_law_673 l E b Ln xs (fL_law_18 Ln xs n) ih v3 σ h
      rw [if_neg hs14] at h
      by_cases hs15 : (x1 &&& (63 : Int32)) = (13 : Int32)
      · rw [if_pos hs15] at h
        refine JL_tableIn (pc := 33) 706 dL_law_33 (by rw [hs15]; decide) (by rw [hs15]; decide) (by rw [hs15]; rfl) (by decide) ?_
        refine JL_sub (L' := [(0, .ref b), (1, .ref (e_a E 0 0)), (2, .ref (e_a E 31 0)), (3, .int v3)]) [0, 1, 2, 3] rfl ?_
        exact tL_law_706 l E b Ln xs (fL_law_18 Ln xs n) ih v3 σ h
      rw [if_neg hs15] at h
      by_cases hs16 : (x1 &&& (63 : Int32)) = (14 : Int32)
      · rw [if_pos hs16] at h
        refine JL_tableIn (pc := 33) 739 dL_law_33 (by rw [hs16]; decide) (by rw [hs16]; decide) (by rw [hs16]; rfl) (by decide) ?_
        refine JL_sub (L' := [(0, .ref b), (1, .ref (e_a E 0 0)), (2, .ref (e_a E 31 0)), (3, .int v3)]) [0, 1, 2, 3] rfl ?_
        exact tL_law_739 l E b Ln xs (fL_law_18 Ln xs n) ih v3 σ h
      rw [if_neg hs16] at h
      by_cases hs17 : (x1 &&& (63 : Int32)) = (15 : Int32)
      · rw [if_pos hs17] at h
        refine JL_tableIn (pc := 33) 762 dL_law_33 (by rw [hs17]; decide) (by rw [hs17]; decide) (by rw [hs17]; rfl) (by decide) ?_
        refine JL_sub (L' := [(0, .ref b), (1, .ref (e_a E 0 0)), (2, .ref (e_a E 31 0)), (3, .int v3)]) [0, 1, 2, 3] rfl ?_
        exact tL_law_762 l E b Ln xs (fL_law_18 Ln xs n) ih v3 σ h
      rw [if_neg hs17] at h
      by_cases hs18 : (x1 &&& (63 : Int32)) = (16 : Int32)
      · rw [if_pos hs18] at h
        refine JL_tableIn (pc := 33) 785 dL_law_33 (by rw [hs18]; decide) (by rw [hs18]; decide) (by rw [hs18]; rfl) (by decide) ?_
        refine JL_sub (L' := [(0, .ref b), (1, .ref (e_a E 0 0)), (2, .ref (e_a E 31 0)), (3, .int v3)]) [0, 1, 2, 3] rfl ?_
        exact tL_law_785 l E b Ln xs (fL_law_18 Ln xs n) ih v3 σ h
      rw [if_neg hs18] at h
      by_cases hs19 : (x1 &&& (63 : Int32)) = (17 : Int32)
      · rw [if_pos hs19] at h
        refine JL_tableIn (pc := 33) 828 dL_law_33 (by rw [hs19]; decide) (by rw [hs19]; decide) (by rw [hs19]; rfl) (by decide) ?_
        refine JL_sub (L' := [(0, .ref b), (1, .ref (e_a E 0 0)), (2, .ref (e_a E 31 0)), (3, .int v3)]) [0, 1, 2, 3] rfl ?_
        exact tL_law_828 l E b Ln xs (fL_law_18 Ln xs n) ih v3 σ h
      rw [if_neg hs19] at h
      by_cases hs20 : (x1 &&& (63 : Int32)) = (18 : Int32)
      · rw [if_pos hs20] at h
        refine JL_tableIn (pc := 33) 861 dL_law_33 (by rw [hs20]; decide) (by rw [hs20]; decide) (by rw [hs20]; rfl) (by decide) ?_
        refine JL_sub (L' := [(0, .ref b), (1, .ref (e_a E 0 0)), (2, .ref (e_a E 31 0)), (3, .int v3)]) [0, 1, 2, 3] rfl ?_
        exact tL_law_861 l E b Ln xs (fL_law_18 Ln xs n) ih v3 σ h
      rw [if_neg hs20] at h
      by_cases hs21 : (x1 &&& (63 : Int32)) = (19 : Int32)
      · rw [if_pos hs21] at h
        refine JL_tableIn (pc := 33) 910 dL_law_33 (by rw [hs21]; decide) (by rw [hs21]; decide) (by rw [hs21]; rfl) (by decide) ?_
        refine JL_sub (L' := [(0, .ref b), (1, .ref (e_a E 0 0)), (2, .ref (e_a E 31 0)), (3, .int v3)]) [0, 1, 2, 3] rfl ?_
        exact tL_law_910 l E b Ln xs (fL_law_18 Ln xs n) ih v3 σ h
      rw [if_neg hs21] at h
      by_cases hs22 : (x1 &&& (63 : Int32)) = (20 : Int32)
      · rw [if_pos hs22] at h
        refine JL_tableIn (pc := 33) 959 dL_law_33 (by rw [hs22]; decide) (by rw [hs22]; decide) (by rw [hs22]; rfl) (by decide) ?_
        refine JL_sub (L' := [(0, .ref b), (1, .ref (e_a E 0 0)), (2, .ref (e_a E 31 0)), (3, .int v3)]) [0, 1, 2, 3] rfl ?_
        exact tL_law_959 l E b Ln xs (fL_law_18 Ln xs n) ih v3 σ h
      rw [if_neg hs22] at h
      by_cases hs23 : (x1 &&& (63 : Int32)) = (21 : Int32)
      · rw [if_pos hs23] at h
        refine JL_tableIn (pc := 33) 982 dL_law_33 (by rw [hs23]; decide) (by rw [hs23]; decide) (by rw [hs23]; rfl) (by decide) ?_
        refine JL_sub (L' := [(0, .ref b), (1, .ref (e_a E 0 0)), (2, .ref (e_a E 31 0)), (3, .int v3)]) [0, 1, 2, 3] rfl ?_
        exact tL_law_982 l E b Ln xs (fL_law_18 Ln xs n) ih v3 σ h
      rw [if_neg hs23] at h
      by_cases hs24 : (x1 &&& (63 : Int32)) = (22 : Int32)
      · rw [if_pos hs24] at h
        refine JL_tableIn (pc := 33) 1015 dL_law_33 (by rw [hs24]; decide) (by rw [hs24]; decide) (by rw [hs24]; rfl) (by decide) ?_
        refine JL_sub (L' := [(0, .ref b), (1, .ref (e_a E 0 0)), (2, .ref (e_a E 31 0)), (3, .int v3)]) [0, 1, 2, 3] rfl ?_
        exact tL_law_1015 l E b Ln xs (fL_law_18 Ln xs n) ih v3 σ h
      rw [if_neg hs24] at h
      by_cases hs25 : (x1 &&& (63 : Int32)) = (23 : Int32)
      · rw [if_pos hs25] at h
        refine JL_tableIn (pc := 33) 1048 dL_law_33 (by rw [hs25]; decide) (by rw [hs25]; decide) (by rw [hs25]; rfl) (by decide) ?_
        refine JL_sub (L' := [(0, .ref b), (1, .ref (e_a E 0 0)), (2, .ref (e_a E 31 0)), (3, .int v3)]) [0, 1, 2, 3] rfl ?_
        exact tL_law_1048 l E b Ln xs (fL_law_18 Ln xs n) ih v3 σ h
      rw [if_neg hs25] at h
      by_cases hs26 : (x1 &&& (63 : Int32)) = (24 : Int32)
      · rw [if_pos hs26] at h
        refine JL_tableIn (pc := 33) 1071 dL_law_33 (by rw [hs26]; decide) (by rw [hs26]; decide) (by rw [hs26]; rfl) (by decide) ?_
        refine JL_sub (L' := [(0, .ref b), (1, .ref (e_a E 0 0)), (2, .ref (e_a E 31 0)), (3, .int v3)]) [0, 1, 2, 3] rfl ?_
        exact tL_law_1071 l E b Ln xs (fL_law_18 Ln xs n) ih v3 σ h
      rw [if_neg hs26] at h
      by_cases hs27 : (x1 &&& (63 : Int32)) = (25 : Int32)
      · rw [if_pos hs27] at h
        refine JL_tableIn (pc := 33) 1104 dL_law_33 (by rw [hs27]; decide) (by rw [hs27]; decide) (by rw [hs27]; rfl) (by decide) ?_
        refine JL_sub (L' := [(0, .ref b), (1, .ref (e_a E 0 0)), (2, .ref (e_a E 31 0)), (3, .int v3)]) [0, 1, 2, 3] rfl ?_
        exact tL_law_1104 l E b Ln xs (fL_law_18 Ln xs n) ih v3 σ h
      rw [if_neg hs27] at h
      by_cases hs28 : (x1 &&& (63 : Int32)) = (26 : Int32)
      · rw [if_pos hs28] at h
        refine JL_tableIn (pc := 33) 1117 dL_law_33 (by rw [hs28]; decide) (by rw [hs28]; decide) (by rw [hs28]; rfl) (by decide) ?_
        refine JL_sub (L' := [(0, .ref b), (1, .ref (e_a E 0 0)), (2, .ref (e_a E 31 0)), (3, .int v3)]) [0, 1, 2, 3] rfl ?_
        exact tL_law_1117 l E b Ln xs (fL_law_18 Ln xs n) ih v3 σ h
      rw [if_neg hs28] at h
      by_cases hs29 : (x1 &&& (63 : Int32)) = (27 : Int32)
      · rw [if_pos hs29] at h
        refine JL_tableIn (pc := 33) 1141 dL_law_33 (by rw [hs29]; decide) (by rw [hs29]; decide) (by rw [hs29]; rfl) (by decide) ?_
        refine JL_sub (L' := [(0, .ref b), (1, .ref (e_a E 0 0)), (2, .ref (e_a E 31 0)), (3, .int v3)]) [0, 1, 2, 3] rfl ?_
        exact tL_law_1141 l E b Ln xs (fL_law_18 Ln xs n) ih v3 σ h
      rw [if_neg hs29] at h
      by_cases hs30 : (x1 &&& (63 : Int32)) = (28 : Int32)
      · rw [if_pos hs30] at h
        refine JL_tableIn (pc := 33) 1174 dL_law_33 (by rw [hs30]; decide) (by rw [hs30]; decide) (by rw [hs30]; rfl) (by decide) ?_
        refine JL_sub (L' := [(0, .ref b), (1, .ref (e_a E 0 0)), (2, .ref (e_a E 31 0)), (3, .int v3)]) [0, 1, 2, 3] rfl ?_
        exact tL_law_1174 l E b Ln xs (fL_law_18 Ln xs n) ih v3 σ h
      rw [if_neg hs30] at h
      by_cases hs31 : (x1 &&& (63 : Int32)) = (29 : Int32)
      · rw [if_pos hs31] at h
        refine JL_tableIn (pc := 33) 1207 dL_law_33 (by rw [hs31]; decide) (by rw [hs31]; decide) (by rw [hs31]; rfl) (by decide) ?_
        refine JL_sub (L' := [(0, .ref b), (1, .ref (e_a E 0 0)), (2, .ref (e_a E 31 0)), (3, .int v3)]) [0, 1, 2, 3] rfl ?_
        exact tL_law_1207 l E b Ln xs (fL_law_18 Ln xs n) ih v3 σ h
      rw [if_neg hs31] at h
      by_cases hs32 : (x1 &&& (63 : Int32)) = (30 : Int32)
      · rw [if_pos hs32] at h
        refine JL_tableIn (pc := 33) 1230 dL_law_33 (by rw [hs32]; decide) (by rw [hs32]; decide) (by rw [hs32]; rfl) (by decide) ?_
        refine JL_sub (L' := [(0, .ref b), (1, .ref (e_a E 0 0)), (2, .ref (e_a E 31 0)), (3, .int v3)]) [0, 1, 2, 3] rfl ?_
        exact tL_law_1230 l E b Ln xs (fL_law_18 Ln xs n) ih v3 σ h
      rw [if_neg hs32] at h
      by_cases hs33 : (x1 &&& (63 : Int32)) = (31 : Int32)
      · rw [if_pos hs33] at h
        refine JL_tableIn (pc := 33) 1253 dL_law_33 (by rw [hs33]; decide) (by rw [hs33]; decide) (by rw [hs33]; rfl) (by decide) ?_
        refine JL_sub (L' := [(0, .ref b), (1, .ref (e_a E 0 0)), (2, .ref (e_a E 31 0)), (3, .int v3)]) [0, 1, 2, 3] rfl ?_
        exact tL_law_1253 l E b Ln xs (fL_law_18 Ln xs n) ih v3 σ h
      rw [if_neg hs33] at h
      by_cases hs34 : (x1 &&& (63 : Int32)) = (32 : Int32)
      · rw [if_pos hs34] at h
        refine JL_tableIn (pc := 33) 1286 dL_law_33 (by rw [hs34]; decide) (by rw [hs34]; decide) (by rw [hs34]; rfl) (by decide) ?_
        refine JL_sub (L' := [(0, .ref b), (1, .ref (e_a E 0 0)), (2, .ref (e_a E 31 0)), (3, .int v3)]) [0, 1, 2, 3] rfl ?_
        exact tL_law_1286 l E b Ln xs (fL_law_18 Ln xs n) ih v3 σ h
      rw [if_neg hs34] at h
      by_cases hs35 : (x1 &&& (63 : Int32)) = (33 : Int32)
      · rw [if_pos hs35] at h
        refine JL_tableIn (pc := 33) 1319 dL_law_33 (by rw [hs35]; decide) (by rw [hs35]; decide) (by rw [hs35]; rfl) (by decide) ?_
        refine JL_sub (L' := [(0, .ref b), (1, .ref (e_a E 0 0)), (2, .ref (e_a E 31 0)), (3, .int v3)]) [0, 1, 2, 3] rfl ?_
        exact tL_law_1319 l E b Ln xs (fL_law_18 Ln xs n) ih v3 σ h
      rw [if_neg hs35] at h
      by_cases hs36 : (x1 &&& (63 : Int32)) = (34 : Int32)
      · rw [if_pos hs36] at h
        refine JL_tableIn (pc := 33) 1352 dL_law_33 (by rw [hs36]; decide) (by rw [hs36]; decide) (by rw [hs36]; rfl) (by decide) ?_
        refine JL_sub (L' := [(0, .ref b), (1, .ref (e_a E 0 0)), (2, .ref (e_a E 31 0)), (3, .int v3)]) [0, 1, 2, 3] rfl ?_
        exact tL_law_1352 l E b Ln xs (fL_law_18 Ln xs n) ih v3 σ h
      rw [if_neg hs36] at h
      by_cases hs37 : (x1 &&& (63 : Int32)) = (35 : Int32)
      · rw [if_pos hs37] at h
        refine JL_tableIn (pc := 33) 1385 dL_law_33 (by rw [hs37]; decide) (by rw [hs37]; decide) (by rw [hs37]; rfl) (by decide) ?_
        refine JL_sub (L' := [(0, .ref b), (1, .ref (e_a E 0 0)), (2, .ref (e_a E 31 0)), (3, .int v3)]) [0, 1, 2, 3] rfl ?_
        exact tL_law_1385 l E b Ln xs (fL_law_18 Ln xs n) ih v3 σ h
      rw [if_neg hs37] at h
      by_cases hs38 : (x1 &&& (63 : Int32)) = (36 : Int32)
      · rw [if_pos hs38] at h
        refine JL_tableIn (pc := 33) 1408 dL_law_33 (by rw [hs38]; decide) (by rw [hs38]; decide) (by rw [hs38]; rfl) (by decide) ?_
        refine JL_sub (L' := [(0, .ref b), (1, .ref (e_a E 0 0)), (2, .ref (e_a E 31 0)), (3, .int v3)]) [0, 1, 2, 3] rfl ?_
        exact tL_law_1408 l E b Ln xs (fL_law_18 Ln xs n) ih v3 σ h
      rw [if_neg hs38] at h
      by_cases hs39 : (x1 &&& (63 : Int32)) = (37 : Int32)
      · rw [if_pos hs39] at h
        refine JL_tableIn (pc := 33) 1421 dL_law_33 (by rw [hs39]; decide) (by rw [hs39]; decide) (by rw [hs39]; rfl) (by decide) ?_
        refine JL_sub (L' := [(0, .ref b), (1, .ref (e_a E 0 0)), (2, .ref (e_a E 31 0)), (3, .int v3)]) [0, 1, 2, 3] rfl ?_
        exact tL_law_1421 l E b Ln xs (fL_law_18 Ln xs n) ih v3 σ h
      rw [if_neg hs39] at h
      by_cases hs40 : (x1 &&& (63 : Int32)) = (38 : Int32)
      · rw [if_pos hs40] at h
        refine JL_tableIn (pc := 33) 1434 dL_law_33 (by rw [hs40]; decide) (by rw [hs40]; decide) (by rw [hs40]; rfl) (by decide) ?_
        refine JL_sub (L' := [(0, .ref b), (1, .ref (e_a E 0 0)), (2, .ref (e_a E 31 0)), (3, .int v3)]) [0, 1, 2, 3] rfl ?_
        exact tL_law_1434 l E b Ln xs (fL_law_18 Ln xs n) ih v3 σ h
      rw [if_neg hs40] at h
      by_cases hs41 : (x1 &&& (63 : Int32)) = (39 : Int32)
      · rw [if_pos hs41] at h
        refine JL_tableIn (pc := 33) 1447 dL_law_33 (by rw [hs41]; decide) (by rw [hs41]; decide) (by rw [hs41]; rfl) (by decide) ?_
        refine JL_sub (L' := [(0, .ref b), (1, .ref (e_a E 0 0)), (2, .ref (e_a E 31 0)), (3, .int v3)]) [0, 1, 2, 3] rfl ?_
        exact tL_law_1447 l E b Ln xs (fL_law_18 Ln xs n) ih v3 σ h
      rw [if_neg hs41] at h
      by_cases hs42 : (x1 &&& (63 : Int32)) = (40 : Int32)
      · rw [if_pos hs42] at h
        refine JL_tableIn (pc := 33) 1460 dL_law_33 (by rw [hs42]; decide) (by rw [hs42]; decide) (by rw [hs42]; rfl) (by decide) ?_
        refine JL_sub (L' := [(0, .ref b), (1, .ref (e_a E 0 0)), (2, .ref (e_a E 31 0)), (3, .int v3)]) [0, 1, 2, 3] rfl ?_
        exact tL_law_1460 l E b Ln xs (fL_law_18 Ln xs n) ih v3 σ h
      rw [if_neg hs42] at h
      by_cases hs43 : (x1 &&& (63 : Int32)) = (41 : Int32)
      · rw [if_pos hs43] at h
        refine JL_tableIn (pc := 33) 1483 dL_law_33 (by rw [hs43]; decide) (by rw [hs43]; decide) (by rw [hs43]; rfl) (by decide) ?_
        refine JL_sub (L' := [(0, .ref b), (1, .ref (e_a E 0 0)), (2, .ref (e_a E 31 0)), (3, .int v3)]) [0, 1, 2, 3] rfl ?_
        exact tL_law_1483 l E b Ln xs (fL_law_18 Ln xs n) ih v3 σ h
      rw [if_neg hs43] at h
      by_cases hs44 : (x1 &&& (63 : Int32)) = (42 : Int32)
      · rw [if_pos hs44] at h
        refine JL_tableIn (pc := 33) 1516 dL_law_33 (by rw [hs44]; decide) (by rw [hs44]; decide) (by rw [hs44]; rfl) (by decide) ?_
        refine JL_sub (L' := [(0, .ref b), (1, .ref (e_a E 0 0)), (2, .ref (e_a E 31 0)), (3, .int v3)]) [0, 1, 2, 3] rfl ?_
        exact tL_law_1516 l E b Ln xs (fL_law_18 Ln xs n) ih v3 σ h
      rw [if_neg hs44] at h
      by_cases hs45 : (x1 &&& (63 : Int32)) = (43 : Int32)
      · rw [if_pos hs45] at h
        refine JL_tableIn (pc := 33) 1529 dL_law_33 (by rw [hs45]; decide) (by rw [hs45]; decide) (by rw [hs45]; rfl) (by decide) ?_
        refine JL_sub (L' := [(0, .ref b), (1, .ref (e_a E 0 0)), (2, .ref (e_a E 31 0)), (3, .int v3)]) [0, 1, 2, 3] rfl ?_
        exact tL_law_1529 l E b Ln xs (fL_law_18 Ln xs n) ih v3 σ h
      rw [if_neg hs45] at h
      by_cases hs46 : (x1 &&& (63 : Int32)) = (44 : Int32)
      · rw [if_pos hs46] at h
        refine JL_tableIn (pc := 33) 1552 dL_law_33 (by rw [hs46]; decide) (by rw [hs46]; decide) (by rw [hs46]; rfl) (by decide) ?_
        refine JL_sub (L' := [(0, .ref b), (1, .ref (e_a E 0 0)), (2, .ref (e_a E 31 0)), (3, .int v3)]) [0, 1, 2, 3] rfl ?_
        exact tL_law_1552 l E b Ln xs (fL_law_18 Ln xs n) ih v3 σ h
      rw [if_neg hs46] at h
      by_cases hs47 : (x1 &&& (63 : Int32)) = (45 : Int32)
      · rw [if_pos hs47] at h
        refine JL_tableIn (pc := 33) 1575 dL_law_33 (by rw [hs47]; decide) (by rw [hs47]; decide) (by rw [hs47]; rfl) (by decide) ?_
        refine JL_sub (L' := [(0, .ref b), (1, .ref (e_a E 0 0)), (2, .ref (e_a E 31 0)), (3, .int v3)]) [0, 1, 2, 3] rfl ?_
        exact tL_law_1575 l E b Ln xs (fL_law_18 Ln xs n) ih v3 σ h
      rw [if_neg hs47] at h
      by_cases hs48 : (x1 &&& (63 : Int32)) = (46 : Int32)
      · rw [if_pos hs48] at h
        refine JL_tableIn (pc := 33) 1598 dL_law_33 (by rw [hs48]; decide) (by rw [hs48]; decide) (by rw [hs48]; rfl) (by decide) ?_
        refine JL_sub (L' := [(0, .ref b), (1, .ref (e_a E 0 0)), (2, .ref (e_a E 31 0)), (3, .int v3)]) [0, 1, 2, 3] rfl ?_
        exact tL_law_1598 l E b Ln xs (fL_law_18 Ln xs n) ih v3 σ h
      rw [if_neg hs48] at h
      by_cases hs49 : (x1 &&& (63 : Int32)) = (47 : Int32)
      · rw [if_pos hs49] at h
        refine JL_tableIn (pc := 33) 1631 dL_law_33 (by rw [hs49]; decide) (by rw [hs49]; decide) (by rw [hs49]; rfl) (by decide) ?_
        refine JL_sub (L' := [(0, .ref b), (1, .ref (e_a E 0 0)), (2, .ref (e_a E 31 0)), (3, .int v3)]) [0, 1, 2, 3] rfl ?_
        exact tL_law_1631 l E b Ln xs (fL_law_18 Ln xs n) ih v3 σ h
      rw [if_neg hs49] at h
      by_cases hs50 : (x1 &&& (63 : Int32)) = (48 : Int32)
      · rw [if_pos hs50] at h
        refine JL_tableIn (pc := 33) 1664 dL_law_33 (by rw [hs50]; decide) (by rw [hs50]; decide) (by rw [hs50]; rfl) (by decide) ?_
        refine JL_sub (L' := [(0, .ref b), (1, .ref (e_a E 0 0)), (2, .ref (e_a E 31 0)), (3, .int v3)]) [0, 1, 2, 3] rfl ?_
        exact tL_law_1664 l E b Ln xs (fL_law_18 Ln xs n) ih v3 σ h
      rw [if_neg hs50] at h
      by_cases hs51 : (x1 &&& (63 : Int32)) = (49 : Int32)
      · rw [if_pos hs51] at h
        refine JL_tableIn (pc := 33) 1687 dL_law_33 (by rw [hs51]; decide) (by rw [hs51]; decide) (by rw [hs51]; rfl) (by decide) ?_
        refine JL_sub (L' := [(0, .ref b), (1, .ref (e_a E 0 0)), (2, .ref (e_a E 31 0)), (3, .int v3)]) [0, 1, 2, 3] rfl ?_
        exact tL_law_1687 l E b Ln xs (fL_law_18 Ln xs n) ih v3 σ h
      rw [if_neg hs51] at h
      by_cases hs52 : (x1 &&& (63 : Int32)) = (50 : Int32)
      · rw [if_pos hs52] at h
        refine JL_tableIn (pc := 33) 1710 dL_law_33 (by rw [hs52]; decide) (by rw [hs52]; decide) (by rw [hs52]; rfl) (by decide) ?_
        refine JL_sub (L' := [(0, .ref b), (1, .ref (e_a E 0 0)), (2, .ref (e_a E 31 0)), (3, .int v3)]) [0, 1, 2, 3] rfl ?_
        exact tL_law_1710 l E b Ln xs (fL_law_18 Ln xs n) ih v3 σ h
      rw [if_neg hs52] at h
      by_cases hs53 : (x1 &&& (63 : Int32)) = (51 : Int32)
      · rw [if_pos hs53] at h
        refine JL_tableIn (pc := 33) 1733 dL_law_33 (by rw [hs53]; decide) (by rw [hs53]; decide) (by rw [hs53]; rfl) (by decide) ?_
        refine JL_sub (L' := [(0, .ref b), (1, .ref (e_a E 0 0)), (2, .ref (e_a E 31 0)), (3, .int v3)]) [0, 1, 2, 3] rfl ?_
        exact tL_law_1733 l E b Ln xs (fL_law_18 Ln xs n) ih v3 σ h
      rw [if_neg hs53] at h
      by_cases hs54 : (x1 &&& (63 : Int32)) = (52 : Int32)
      · rw [if_pos hs54] at h
        refine JL_tableIn (pc := 33) 1776 dL_law_33 (by rw [hs54]; decide) (by rw [hs54]; decide) (by rw [hs54]; rfl) (by decide) ?_
        refine JL_sub (L' := [(0, .ref b), (1, .ref (e_a E 0 0)), (2, .ref (e_a E 31 0)), (3, .int v3)]) [0, 1, 2, 3] rfl ?_
        exact tL_law_1776 l E b Ln xs (fL_law_18 Ln xs n) ih v3 σ h
      rw [if_neg hs54] at h
      by_cases hs55 : (x1 &&& (63 : Int32)) = (53 : Int32)
      · rw [if_pos hs55] at h
        refine JL_tableIn (pc := 33) 1789 dL_law_33 (by rw [hs55]; decide) (by rw [hs55]; decide) (by rw [hs55]; rfl) (by decide) ?_
        refine JL_sub (L' := [(0, .ref b), (1, .ref (e_a E 0 0)), (2, .ref (e_a E 31 0)), (3, .int v3)]) [0, 1, 2, 3] rfl ?_
        exact tL_law_1789 l E b Ln xs (fL_law_18 Ln xs n) ih v3 σ h
      rw [if_neg hs55] at h
      refine JL_tableOut (pc := 33) 1802 dL_law_33 (by have := ne_i hs2 (k := 0) (by decide); have := ne_i hs3 (k := 1) (by decide); have := ne_i hs4 (k := 2) (by decide); have := ne_i hs5 (k := 3) (by decide); have := ne_i hs6 (k := 4) (by decide); have := ne_i hs7 (k := 5) (by decide); have := ne_i hs8 (k := 6) (by decide); have := ne_i hs9 (k := 7) (by decide); have := ne_i hs10 (k := 8) (by decide); have := ne_i hs11 (k := 9) (by decide); have := ne_i hs12 (k := 10) (by decide); have := ne_i hs13 (k := 11) (by decide); have := ne_i hs14 (k := 12) (by decide); have := ne_i hs15 (k := 13) (by decide); have := ne_i hs16 (k := 14) (by decide); have := ne_i hs17 (k := 15) (by decide); have := ne_i hs18 (k := 16) (by decide); have := ne_i hs19 (k := 17) (by decide); have := ne_i hs20 (k := 18) (by decide); have := ne_i hs21 (k := 19) (by decide); have := ne_i hs22 (k := 20) (by decide); have := ne_i hs23 (k := 21) (by decide); have := ne_i hs24 (k := 22) (by decide); have := ne_i hs25 (k := 23) (by decide); have := ne_i hs26 (k := 24) (by decide); have := ne_i hs27 (k := 25) (by decide); have := ne_i hs28 (k := 26) (by decide); have := ne_i hs29 (k := 27) (by decide); have := ne_i hs30 (k := 28) (by decide); have := ne_i hs31 (k := 29) (by decide); have := ne_i hs32 (k := 30) (by decide); have := ne_i hs33 (k := 31) (by decide); have := ne_i hs34 (k := 32) (by decide); have := ne_i hs35 (k := 33) (by decide); have := ne_i hs36 (k := 34) (by decide); have := ne_i hs37 (k := 35) (by decide); have := ne_i hs38 (k := 36) (by decide); have := ne_i hs39 (k := 37) (by decide); have := ne_i hs40 (k := 38) (by decide); have := ne_i hs41 (k := 39) (by decide); have := ne_i hs42 (k := 40) (by decide); have := ne_i hs43 (k := 41) (by decide); have := ne_i hs44 (k := 42) (by decide); have := ne_i hs45 (k := 43) (by decide); have := ne_i hs46 (k := 44) (by decide); have := ne_i hs47 (k := 45) (by decide); have := ne_i hs48 (k := 46) (by decide); have := ne_i hs49 (k := 47) (by decide); have := ne_i hs50 (k := 48) (by decide); have := ne_i hs51 (k := 49) (by decide); have := ne_i hs52 (k := 50) (by decide); have := ne_i hs53 (k := 51) (by decide); have := ne_i hs54 (k := 52) (by decide); have := ne_i hs55 (k := 53) (by decide); omega) (by decide) ?_
      refine JL_iinc (pc := 1802) (L' := [(3, .int (v3 + (6 : Int32))), (0, .ref b), (1, .ref (e_a E 0 0)), (2, .ref (e_a E 31 0))]) 3 (v3 + (6 : Int32)) dL_law_1802 rfl (by rfl) (by decide) rfl ?_
      refine JL_goto (pc := 1805) 18 dL_law_1805 (by decide) ?_
      refine JL_sub (L' := [(0, .ref b), (1, .ref (e_a E 0 0)), (2, .ref (e_a E 31 0)), (3, .int (v3 + (6 : Int32)))]) [1, 2, 3, 0] rfl ?_
      exact ih (v3 + (6 : Int32)) σ h
