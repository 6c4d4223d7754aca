/-! THE MEMORY: five functions. Blocks (an object with the arrays that are its own) are numbered; m_sc: int fields, m_lg: long fields, m_ar: int and byte arrays, m_la: long arrays, m_rf: fields that hold another block. -/
abbrev Mm : Type := (Nat → Nat → Int32) × (Nat → Nat → Int64) × (Nat → Nat → Nat → Int32) × (Nat → Nat → Nat → Int64) × (Nat → Nat → Option Nat)
def m_sc (σ : Mm) : Nat → Nat → Int32 := σ.1
def m_lg (σ : Mm) : Nat → Nat → Int64 := σ.2.1
def m_ar (σ : Mm) : Nat → Nat → Nat → Int32 := σ.2.2.1
def m_la (σ : Mm) : Nat → Nat → Nat → Int64 := σ.2.2.2.1
def m_rf (σ : Mm) : Nat → Nat → Option Nat := σ.2.2.2.2
def u_2 {α : Type} (f : Nat → Nat → α) (o k : Nat) (v : α) : Nat → Nat → α := fun a b => if a = o ∧ b = k then v else f a b
def u_3 {α : Type} (f : Nat → Nat → Nat → α) (o j : Nat) (g : Nat → α) : Nat → Nat → Nat → α := fun a b => if a = o ∧ b = j then g else f a b
def w_sc (σ : Mm) (o k : Nat) (v : Int32) : Mm := (u_2 σ.1 o k v, σ.2)
def w_lg (σ : Mm) (o k : Nat) (v : Int64) : Mm := (σ.1, u_2 σ.2.1 o k v, σ.2.2)
def w_af (σ : Mm) (o j : Nat) (g : Nat → Int32) : Mm := (σ.1, σ.2.1, u_3 σ.2.2.1 o j g, σ.2.2.2)
def w_lf (σ : Mm) (o j : Nat) (g : Nat → Int64) : Mm := (σ.1, σ.2.1, σ.2.2.1, u_3 σ.2.2.2.1 o j g, σ.2.2.2.2)
def w_rf (σ : Mm) (o k : Nat) (r : Option Nat) : Mm := (σ.1, σ.2.1, σ.2.2.1, σ.2.2.2.1, u_2 σ.2.2.2.2 o k r)
def w_ar (σ : Mm) (o j i : Nat) (v : Int32) : Mm := w_af σ o j (upd (m_ar σ o j) i v)
def w_la (σ : Mm) (o j i : Nat) (v : Int64) : Mm := w_lf σ o j (vp_updL (m_la σ o j) i v)
/-! THE LAYOUT: the class of each block; of each class, its fields' sorts (0 int, 1 long, 2 a block that may change, 3 an array of its own, 4 a block for good) and its arrays' (0 byte, 1 int, 2 long, 3 Tray, 4 Town; length) -/
def kdL : List Nat := [11, 6, 9, 1, 7, 2, 4, 5, 2, 5, 10, 4, 0, 3, 4, 8, 8, 8, 8, 7, 7, 7, 2, 2, 2, 4, 4, 4, 5, 5, 5, 12]
def fcL : List (List (Nat × Nat)) := [[(2, 2), (0, 0), (0, 0), (3, 0), (3, 1), (0, 0), (3, 2)], [(2, 6), (2, 2), (2, 5), (3, 0), (0, 0)], [(0, 0), (0, 0), (0, 0), (3, 0), (3, 1), (3, 2), (3, 3), (3, 4), (3, 5), (3, 6), (3, 7), (3, 8), (3, 9), (3, 10)], [(4, 4), (2, 2), (2, 5), (2, 10), (3, 0), (0, 0), (0, 0), (0, 0), (0, 0), (0, 0), (3, 1), (0, 0), (3, 2)], [(3, 0), (3, 1), (3, 2), (3, 3), (3, 4), (3, 5), (0, 0), (0, 0), (0, 0)], [(0, 0), (0, 0), (0, 0), (3, 0), (3, 1), (3, 2), (3, 3), (3, 4)], [(3, 0), (0, 0), (0, 0), (0, 0), (0, 0), (0, 0), (0, 0), (0, 0), (1, 0), (0, 0), (0, 0), (0, 0), (0, 0)], [(2, 2), (4, 4), (2, 5)], [(0, 0), (0, 0), (3, 0)], [(2, 6), (2, 2)], [(2, 2), (2, 4), (3, 0), (3, 1), (0, 0), (0, 0), (0, 0), (0, 0), (0, 0)], [(0, 0), (1, 0), (1, 0), (3, 0), (4, 6), (4, 9), (4, 1), (0, 0), (0, 0), (4, 7), (2, 2), (2, 5), (3, 1), (0, 0), (4, 10), (4, 4), (4, 0), (4, 3)], [(3, 0), (3, 1), (0, 0), (1, 0), (1, 0), (3, 2), (3, 3), (3, 4), (3, 5), (3, 6), (0, 0), (0, 0), (0, 0), (0, 0), (0, 0), (0, 0), (0, 0), (0, 0), (0, 0), (0, 0), (0, 0), (3, 7), (0, 0), (0, 0), (3, 8), (3, 9), (0, 0), (0, 0), (0, 0), (0, 0), (3, 10), (3, 11), (0, 0), (3, 12), (3, 13), (0, 0), (0, 0), (0, 0), (0, 0), (3, 14), (3, 15), (3, 16), (0, 0), (0, 0), (0, 0)]]
def atL : List (List (Nat × Nat)) := [[(1, 8), (1, 8), (1, 8)], [(1, 3)], [(2, 4), (2, 8), (2, 10), (1, 8), (1, 8), (1, 8), (1, 8), (1, 10), (1, 10), (1, 10), (1, 10)], [(1, 60), (1, 5), (1, 8)], [(1, 4), (1, 4), (1, 8), (1, 8), (1, 8), (1, 10)], [(1, 60), (1, 60), (1, 60), (1, 60), (1, 60)], [(0, 900)], [], [(2, 60)], [], [(1, 8), (1, 8)], [(3, 4), (4, 3)], [(1, 2950), (2, 120), (1, 4), (1, 4), (2, 240), (0, 900), (0, 900), (1, 3), (1, 8), (1, 12800), (1, 8), (1, 8), (1, 8), (1, 7300), (1, 80), (1, 5), (1, 8)]]
def KD (o : Nat) : Nat := kdL.getD o 99
def fc (ci k : Nat) : Nat × Nat := (fcL.getD ci []).getD k (9, 9)
def nF (ci : Nat) : Nat := (fcL.getD ci []).length
def at_ (ci j : Nat) : Nat × Nat := (atL.getD ci []).getD j (9, 0)
def nA (ci : Nat) : Nat := (atL.getD ci []).length
/-- the block that a field holds for good -/
def tg (o k : Nat) : Nat := match o, k with
  | 0, 4 => 1
  | 0, 5 => 2
  | 0, 6 => 3
  | 0, 9 => 4
  | 0, 14 => 10
  | 0, 15 => 11
  | 0, 16 => 12
  | 0, 17 => 13
  | 4, 1 => 6
  | 13, 0 => 14
  | 19, 1 => 25
  | 20, 1 => 26
  | 21, 1 => 27
  | _, _ => 99
/-- the blocks in the arrays of references -/
def ra (j i : Nat) : Nat := if j = 0 then 15 + i else 19 + i
/-- the surroundings: classes and slots; array classes; where a block's cells lie; the heap's size at the start; KEYWORDS; the words' text and its bytes -/
abbrev EV : Type := va_G × (Nat → ClassId) × (Nat → Nat → Nat) × Nat × Nat × Nat × Nat
def e_c (E : EV) : Nat → ClassId := E.2.1
def e_a (E : EV) : Nat → Nat → Nat := E.2.2.1
def e_B (E : EV) : Nat := E.2.2.2.1
def e_w (E : EV) : Nat := E.2.2.2.2.1
def e_s (E : EV) : Nat := E.2.2.2.2.2.1
def e_v (E : EV) : Nat := E.2.2.2.2.2.2
abbrev e_A (E : EV) : Nat → Prop := fun q => e_B E ≤ q
def fv (E : EV) (σ : Mm) (o k : Nat) : Value := match (fc (KD o) k).1 with
  | 0 => .int (m_sc σ o k)
  | 1 => .long (m_lg σ o k)
  | 2 => va_rf ((m_rf σ o k).map (fun q => e_a E q 0))
  | 3 => .ref (e_a E o ((fc (KD o) k).2 + 1))
  | _ => .ref (e_a E (tg o k) 0)
def ac (E : EV) (σ : Mm) (o j : Nat) : vp_A := ((at_ (KD o) j).2, match (at_ (KD o) j).1 with
  | 0 => .inl (m_ar σ o j)
  | 1 => .inl (m_ar σ o j)
  | 2 => .inr (.inl (m_la σ o j))
  | _ => .inr (.inr (.inr (.inr (fun i => some (e_a E (ra j i) 0))))))
abbrev tyl (E : EV) : List (ClassId × FieldType) := [(e_c E 0, .byte), (e_c E 1, .int), (e_c E 2, .long), (e_c E 3, .object RX8), (e_c E 4, .object RX7)]
def HO (E : EV) (σ : Mm) (H : Heap) : Prop :=
  (∀ o, KD o < 13 → t_OB (e_a E o 0) (E.1.1 (KD o)) (nF (KD o)) (E.1.2 (KD o)) H (fv E σ o)) ∧
  ∀ o j, KD o < 13 → j < nA (KD o) → H[e_a E o (j + 1)]? = some (vp_cell (e_c E (at_ (KD o) j).1) (ac E σ o j))
def okB (o j : Nat) : Prop := KD o < 13 ∧ j ≤ nA (KD o)
def GE (E : EV) : Prop := (∀ o j o' j', okB o j → okB o' j' → e_a E o j = e_a E o' j' → o = o' ∧ j = j') ∧ ∀ o j, okB o j → e_B E ≤ e_a E o j
def kyB : List Int32 := [32, 112, 108, 97, 99, 101, 32, 118, 97, 110, 101, 32, 103, 101, 97, 114, 32, 98, 101, 108, 116, 32, 116, 101, 101, 116, 104, 32, 97, 116, 32, 115, 116, 105, 102, 102, 32, 112, 111, 105, 110, 116, 115, 32, 111, 102, 32, 115, 108, 97, 99, 107, 32, 119, 105, 110, 100, 32, 103, 117, 115, 116, 32, 119, 97, 105, 116, 32, 108, 105, 102, 116, 32, 108, 111, 119, 101, 114, 32, 104, 111, 108, 100, 32, 102, 114, 101, 101, 32, 116, 117, 114, 110, 32, 119, 104, 101, 110, 32, 114, 105, 103, 104, 116, 32, 108, 111, 111, 112, 32, 101, 110, 100, 32, 115, 116, 111, 112, 32]
def kwL : List Int64 := [482854658917, 1986096741, 499917354088, 24948, 495874303590, 123623812527219, 1734697330, 1650814068, 28518, 495739560811, 2003398244, 2002872692, 1818846836, 465726563698, 1752132708, 1718773093, 1953854062, 1735750516, 2003330414, 491394656372, 1819242352, 6647396, 1937010544]
def kyT : String := " place vane gear belt teeth at stiff points of slack wind gust wait lift lower hold free turn when right loop end stop "
def nwL : List (String × Nat × MethodName × String) := [("VaneTown", 21, ⟨"VaneTown$Text", "<init>", "()V"⟩, "VaneTown"), ("VaneTown", 28, ⟨"VaneTown$VillageReader", "<init>", "()V"⟩, "VaneTown"), ("VaneTown", 35, ⟨"VaneTown$OrdersReader", "<init>", "()V"⟩, "VaneTown"), ("VaneTown", 49, ⟨"VaneTown$Town", "<init>", "()V"⟩, "VaneTown"), ("VaneTown", 56, ⟨"VaneTown$Plan", "<init>", "()V"⟩, "VaneTown"), ("VaneTown", 63, ⟨"VaneTown$Steps", "<init>", "()V"⟩, "VaneTown"), ("VaneTown", 74, ⟨"VaneTown$Works", "<init>", "()V"⟩, "VaneTown"), ("VaneTown", 81, ⟨"VaneTown$State", "<init>", "()V"⟩, "VaneTown"), ("VaneTown", 88, ⟨"VaneTown$Joins", "<init>", "()V"⟩, "VaneTown"), ("VaneTown", 95, ⟨"VaneTown$Runner", "<init>", "()V"⟩, "VaneTown"), ("VaneTown", 100, ⟨"VaneTown$Tray", "<init>", "()V"⟩, "VaneTown"), ("VaneTown$Joins", 43, ⟨"VaneTown", "has", "(II)Z"⟩, "VaneTown"), ("VaneTown$Joins", 47, ⟨"VaneTown", "with", "(IIZ)I"⟩, "VaneTown"), ("VaneTown$Runner", 11, ⟨"VaneTown$State", "<init>", "()V"⟩, "VaneTown"), ("VaneTown$Runner", 155, ⟨"VaneTown", "with", "(IIZ)I"⟩, "VaneTown"), ("VaneTown$Town", 9, ⟨"VaneTown$Plan", "<init>", "()V"⟩, "VaneTown"), ("VaneTown$Town", 18, ⟨"VaneTown$State", "<init>", "()V"⟩, "VaneTown"), ("VaneTown$Town", 25, ⟨"VaneTown$Steps", "<init>", "()V"⟩, "VaneTown"), ("VaneTown$Works", 76, ⟨"VaneTown", "with", "(IIZ)I"⟩, "VaneTown"), ("VaneTown$Works", 113, ⟨"VaneTown", "has", "(II)Z"⟩, "VaneTown")]
def TB (E : EV) (U : State) : Prop := va_K E.1 vwCl (tyl E) U ∧ (∀ q ∈ nwL, va_Nw (.methodLinkNest q.1 q.2.1 q.2.2.1 q.2.2.2) U) ∧ vk_R RX12 180 kyT (e_s E) U
def SH (E : EV) (U : State) (H : Heap) : Prop := va_Z RX6 "KEYWORDS" "[J" (.ref (e_w E)) (e_A E) U H ∧ va_T .long (e_w E) 23 (fun j => .long (kwL.getD j 0)) (e_A E) U H ∧ va_Z RJ0 "COMPACT_STRINGS" "Z" (.int 1) (e_A E) U H ∧
  va_O RJ0 (e_s E) (e_A E) U H ∧ va_OF RJ0 "coder" "B" (.int 0) (e_s E) (e_A E) U H ∧ va_OF RJ0 "value" "[B" (.ref (e_v E)) (e_s E) (e_A E) U H ∧ va_T .byte (e_v E) 119 (fun j => .int (kyB.getD j 0)) (e_A E) U H ∧ va_Zq RJ3 "SIOOBE_FORMATTER" "Ljava/util/function/BiFunction;" (e_A E) U H
def WO (E : EV) (σ : Mm) (U : State) (H : Heap) : Prop := GE E ∧ TB E U ∧ SH E U H ∧ HO E σ H
theorem TB.warm {E : EV} {s U : State} (hW : s.WarmedH U.vm) (h : TB E s) : TB E U := ⟨va_K.moved hW.alike h.1, fun q hq => va_Nw.warmM hW (h.2.1 q hq), vk_R.warm hW h.2.2⟩
theorem TB.same {E : EV} {s U : State} (hv : U.vm = s.vm) (h : TB E s) : TB E U := ⟨va_K.moved (by rw [hv]; exact Vm.Alike.refl _) h.1, fun q hq => va_Nw.same rfl hv.symm (h.2.1 q hq), vk_R.same hv h.2.2⟩
theorem SH.moved {E : EV} {s U : State} {H : Heap} (hv : s.vm.Alike U.vm) (h : SH E s H) : SH E U H := ⟨va_Z.moved hv h.1, va_T.moved hv h.2.1, va_Z.moved hv h.2.2.1, va_O.moved hv h.2.2.2.1, va_OF.moved hv h.2.2.2.2.1, va_OF.moved hv h.2.2.2.2.2.1, va_T.moved hv h.2.2.2.2.2.2.1, va_Zq.moved hv h.2.2.2.2.2.2.2⟩
theorem SH.kept {E : EV} {s : State} {H H1 : Heap} (h : SH E s H) (hq : ∀ a : Nat, a < H.size → ¬ e_A E a → H1[a]? = H[a]?) : SH E s H1 := ⟨h.1.kept hq, h.2.1.kept hq, h.2.2.1.kept hq, h.2.2.2.1.kept hq, h.2.2.2.2.1.kept hq, h.2.2.2.2.2.1.kept hq, h.2.2.2.2.2.2.1.kept hq, h.2.2.2.2.2.2.2.kept hq⟩
theorem WO.warm {E : EV} {σ : Mm} {s U : State} {H : Heap} (hW : s.WarmedH U.vm) (hH : U.heap = H) (h : WO E σ s H) : WO E σ U U.heap := by
  rw [hH]
  exact ⟨h.1, h.2.1.warm hW, h.2.2.1.moved hW.alike, h.2.2.2⟩
theorem WO.back {E : EV} {σ : Mm} {s U : State} {H : Heap} (hW : s.WarmedH U.vm) (hT : TB E s) (hv : U.vm.Alike s.vm) (h : WO E σ U H) : WO E σ s H := ⟨h.1, hT, h.2.2.1.moved hv, h.2.2.2⟩
/-! WORDS -/
def GW : List Cond := lw_tbl.filter goodWord
theorem GW_mem {w : Cond} (h : w ∈ lw_tbl) (g : goodWord w = true) : w ∈ GW := List.mem_filter.mpr ⟨h, g⟩
abbrev MI : Type := MethodName × ByteArray × Nat × Option FieldType
abbrev wsM (y : MI) : List Cond := Cond.code y.1 y.2.1 y.2.2.1 y.2.2.2 :: GW
def rmH (d : Nat) : Room := { frames := d, cells := 0, slots := 0, locals := 40 * d }
/-- a method's contract: over a memory, with these arguments, it gives this answer and leaves that memory -/
def Ct (l : Launch) (E : EV) (y : MI) (d : Nat) (As : List Value) (σ : Mm) (R : Option Value × Mm) : Prop :=
  Met l y.1 (wsM y) (rmH d) (fun v U => v = As.toArray ∧ WO E σ U U.heap) (fun _ st oc t => oc = .returned R.1 ∧ WO E R.2 t t.heap ∧ va_F (e_A E) st t) 0 0 (e_A E)
abbrev FX (p : Program) (s : State) (m : MethodId) (args : Array Value) (meth : Method) (c : Code) (y : MI) : Prop :=
  p.tables.exec = Jvm.exec ∧ c.code = y.2.1 ∧ c.maxLocals = y.2.2.1 ∧ meth.sig.returnType = y.2.2.2 ∧ s.vm.findClass y.1.cls = some m.cls ∧ (∀ w ∈ GW, w.before args s = true) ∧ meth.locks = false
/-- inside a method: from here on it comes to the answer and the memory R -/
def Jd (l : Launch) (E : EV) (y : MI) (d : Nat) (R : Option Value × Mm) (σ : Mm) (pc : Nat) (L : List (Nat × Value)) (st : List Value) : Prop :=
  ∀ (p : Program) (e : Env) (s : State) (m : MethodId) (args : Array Value) (below : List Frame) (meth : Method) (c : Code) (H : Heap) (locs : List Loc) (ls : Array Slot), FX p s m args meth c y → WO E σ s H → va_S (e_A E) s.heap H locs → lv_has ls y.2.2.1 L →
    W p l e (rmH d) s m args below meth c H locs 0 0 (MQ below (fun _ st oc t => oc = .returned R.1 ∧ WO E R.2 t t.heap ∧ va_F (e_A E) st t) args s 0 0 (e_A E)) (F0 m pc ls st)
theorem Ct.of {l : Launch} {E : EV} {y : MI} {d : Nat} {As : List Value} {σ : Mm} {R : Option Value × Mm} (hp : plainName y.1.cls = true) (hn : (lg_sl As).length ≤ y.2.2.1) (h : Jd l E y d R σ 0 (lv_args 0 As) []) : Ct l E y d As σ R := by
  refine Met.ofW (cc := y.2.1) (maxL := y.2.2.1) (ret := y.2.2.2) hp rfl ?_
  intro p e s m args below meth c s₁ B hml hv
  obtain ⟨rfl, hW⟩ := hv
  rw [lg_entry_eq]
  exact h p e s m _ below meth c s.heap [] _ ⟨B.exec, B.bytes, hml, B.returns, findClass_of_methodNamed B.named, fun w hw => atoms_spec (ws := wsM y) B.pre w (List.mem_cons_of_mem _ hw), B.notSynchronized⟩ hW va_S.rf (lv_entry As hn)
section JL
variable {l : Launch} {E : EV} {y : MI} {d : Nat} {R : Option Value × Mm} {σ : Mm} {pc : Nat} {L L' : List (Nat × Value)} {st : List Value}
theorem J_iconst {n : Int} (v : Int32) (hd : decode y.2.1 pc = .ok (.iconst n, 1)) (hv : Int32.ofInt n = v) (k : Jd l E y d R σ (pc + 1) L (.int v :: st)) : Jd l E y d R σ pc L st :=
  fun p e s m args below meth c H locs ls X hW hS hl => lv_iconst X.1 X.2.1 hd hv (k p e s m args below meth c H locs ls X hW hS hl)
theorem J_bipush {n : Int} (v : Int32) (hd : decode y.2.1 pc = .ok (.bipush n, 2)) (hv : (Int8.ofInt n).toInt32 = v) (k : Jd l E y d R σ (pc + 2) L (.int v :: st)) : Jd l E y d R σ pc L st :=
  fun p e s m args below meth c H locs ls X hW hS hl => lv_bipush X.1 X.2.1 hd hv (k p e s m args below meth c H locs ls X hW hS hl)
theorem J_sipush {n : Int} (v : Int32) (hd : decode y.2.1 pc = .ok (.sipush n, 3)) (hv : (Int16.ofInt n).toInt32 = v) (k : Jd l E y d R σ (pc + 3) L (.int v :: st)) : Jd l E y d R σ pc L st :=
  fun p e s m args below meth c H locs ls X hW hS hl => lv_sipush X.1 X.2.1 hd hv (k p e s m args below meth c H locs ls X hW hS hl)
theorem J_lconst {n : Fin 2} (v : Int64) (hd : decode y.2.1 pc = .ok (.lconst n, 1)) (hv : Int64.ofNat (n : Nat) = v) (k : Jd l E y d R σ (pc + 1) L (.long v :: st)) : Jd l E y d R σ pc L st :=
  fun p e s m args below meth c H locs ls X hW hS hl => lv_lconst X.1 X.2.1 hd hv (k p e s m args below meth c H locs ls X hW hS hl)
theorem J_ldc {idx : Nat} (v : Int32) (hd : decode y.2.1 pc = .ok (.ldc idx, 2)) (hc : Cond.constant y.1.cls idx v ∈ GW) (k : Jd l E y d R σ (pc + 2) L (.int v :: st)) : Jd l E y d R σ pc L st :=
  fun p e s m args below meth c H locs ls X hW hS hl => lv_ldc X.1 X.2.1 X.2.2.2.2.1 (X.2.2.2.2.2.1 _ hc) hd (k p e s m args below meth c H locs ls X hW hS hl)
theorem J_ldcw {idx : Nat} (v : Int32) (hd : decode y.2.1 pc = .ok (.ldc_w idx, 3)) (hc : Cond.constant y.1.cls idx v ∈ GW) (k : Jd l E y d R σ (pc + 3) L (.int v :: st)) : Jd l E y d R σ pc L st :=
  fun p e s m args below meth c H locs ls X hW hS hl => lv_ldcw X.1 X.2.1 X.2.2.2.2.1 (X.2.2.2.2.2.1 _ hc) hd (k p e s m args below meth c H locs ls X hW hS hl)
theorem J_ldc2 {idx : Nat} (v : Int64) (hd : decode y.2.1 pc = .ok (.ldc2_w idx, 3)) (hc : Cond.constantLong y.1.cls idx v ∈ GW) (k : Jd l E y d R σ (pc + 3) L (.long v :: st)) : Jd l E y d R σ pc L st :=
  fun p e s m args below meth c H locs ls X hW hS hl => lv_ldc2 X.1 X.2.1 X.2.2.2.2.1 (X.2.2.2.2.2.1 _ hc) hd (k p e s m args below meth c H locs ls X hW hS hl)
theorem J_iload_n {i : Fin 4} {x : Int32} (q : Nat) (hd : decode y.2.1 pc = .ok (.iload_n i, 1)) (hq : L[q]? = some ((i : Nat), .int x)) (k : Jd l E y d R σ (pc + 1) L (.int x :: st)) : Jd l E y d R σ pc L st :=
  fun p e s m args below meth c H locs ls X hW hS hl => lv_iload_n X.1 X.2.1 hd rfl (lv_at hl q hq) (k p e s m args below meth c H locs ls X hW hS hl)
theorem J_iload {i : Nat} {x : Int32} (q : Nat) (hd : decode y.2.1 pc = .ok (.iload i, 2)) (hq : L[q]? = some (i, .int x)) (k : Jd l E y d R σ (pc + 2) L (.int x :: st)) : Jd l E y d R σ pc L st :=
  fun p e s m args below meth c H locs ls X hW hS hl => lv_iload X.1 X.2.1 hd (lv_at hl q hq) (k p e s m args below meth c H locs ls X hW hS hl)
theorem J_lload_n {i : Fin 4} {x : Int64} (q : Nat) (hd : decode y.2.1 pc = .ok (.lload_n i, 1)) (hq : L[q]? = some ((i : Nat), .long x)) (k : Jd l E y d R σ (pc + 1) L (.long x :: st)) : Jd l E y d R σ pc L st :=
  fun p e s m args below meth c H locs ls X hW hS hl => lv_lload_n X.1 X.2.1 hd rfl (lv_at hl q hq) (k p e s m args below meth c H locs ls X hW hS hl)
theorem J_lload {i : Nat} {x : Int64} (q : Nat) (hd : decode y.2.1 pc = .ok (.lload i, 2)) (hq : L[q]? = some (i, .long x)) (k : Jd l E y d R σ (pc + 2) L (.long x :: st)) : Jd l E y d R σ pc L st :=
  fun p e s m args below meth c H locs ls X hW hS hl => lv_lload X.1 X.2.1 hd (lv_at hl q hq) (k p e s m args below meth c H locs ls X hW hS hl)
theorem J_aload_n {i : Fin 4} {x : Nat} (q : Nat) (hd : decode y.2.1 pc = .ok (.aload_n i, 1)) (hq : L[q]? = some ((i : Nat), .ref x)) (k : Jd l E y d R σ (pc + 1) L (.ref x :: st)) : Jd l E y d R σ pc L st :=
  fun p e s m args below meth c H locs ls X hW hS hl => lv_aload_n X.1 X.2.1 hd rfl (lv_at hl q hq) (k p e s m args below meth c H locs ls X hW hS hl)
theorem J_aload {i : Nat} {x : Nat} (q : Nat) (hd : decode y.2.1 pc = .ok (.aload i, 2)) (hq : L[q]? = some (i, .ref x)) (k : Jd l E y d R σ (pc + 2) L (.ref x :: st)) : Jd l E y d R σ pc L st :=
  fun p e s m args below meth c H locs ls X hW hS hl => lv_aload X.1 X.2.1 hd (lv_at hl q hq) (k p e s m args below meth c H locs ls X hW hS hl)
/-- the locals behind a store of one slot, of two -/
def s_1 (L : List (Nat × Value)) (i : Nat) (v : Value) : List (Nat × Value) := (i, v) :: L.filter (fun q => !(q.1 == i) && !(q.1 + 1 == i && q.2.category == 2))
def s_2 (L : List (Nat × Value)) (i : Nat) (v : Value) : List (Nat × Value) := (i, v) :: L.filter (fun q => !(q.1 == i) && (!(q.1 == i + 1) && !(q.1 + 1 == i && q.2.category == 2)))
theorem J_istore_n {i : Fin 4} {x : Int32} (hd : decode y.2.1 pc = .ok (.istore_n i, 1)) (hn : (i : Nat) < y.2.2.1) (hL : s_1 L i (.int x) = L') (k : Jd l E y d R σ (pc + 1) L' st) : Jd l E y d R σ pc L (.int x :: st) :=
  fun p e s m args below meth c H locs ls X hW hS hl => lv_istore_n X.1 X.2.1 hd rfl hl hn hL (fun ls' hl' => k p e s m args below meth c H locs ls' X hW hS hl')
theorem J_istore {i : Nat} {x : Int32} (hd : decode y.2.1 pc = .ok (.istore i, 2)) (hn : i < y.2.2.1) (hL : s_1 L i (.int x) = L') (k : Jd l E y d R σ (pc + 2) L' st) : Jd l E y d R σ pc L (.int x :: st) :=
  fun p e s m args below meth c H locs ls X hW hS hl => lv_istore X.1 X.2.1 hd hl hn hL (fun ls' hl' => k p e s m args below meth c H locs ls' X hW hS hl')
theorem J_lstore_n {i : Fin 4} {x : Int64} (hd : decode y.2.1 pc = .ok (.lstore_n i, 1)) (hn : (i : Nat) + 1 < y.2.2.1) (hL : s_2 L i (.long x) = L') (k : Jd l E y d R σ (pc + 1) L' st) : Jd l E y d R σ pc L (.long x :: st) :=
  fun p e s m args below meth c H locs ls X hW hS hl => lv_lstore_n X.1 X.2.1 hd rfl hl hn hL (fun ls' hl' => k p e s m args below meth c H locs ls' X hW hS hl')
theorem J_lstore {i : Nat} {x : Int64} (hd : decode y.2.1 pc = .ok (.lstore i, 2)) (hn : i + 1 < y.2.2.1) (hL : s_2 L i (.long x) = L') (k : Jd l E y d R σ (pc + 2) L' st) : Jd l E y d R σ pc L (.long x :: st) :=
  fun p e s m args below meth c H locs ls X hW hS hl => lv_lstore X.1 X.2.1 hd hl hn hL (fun ls' hl' => k p e s m args below meth c H locs ls' X hW hS hl')
theorem J_astore_n {i : Fin 4} {x : Nat} (hd : decode y.2.1 pc = .ok (.astore_n i, 1)) (hn : (i : Nat) < y.2.2.1) (hL : s_1 L i (.ref x) = L') (k : Jd l E y d R σ (pc + 1) L' st) : Jd l E y d R σ pc L (.ref x :: st) :=
  fun p e s m args below meth c H locs ls X hW hS hl => lv_astore_n X.1 X.2.1 hd rfl hl hn hL (fun ls' hl' => k p e s m args below meth c H locs ls' X hW hS hl')
theorem J_astore {i : Nat} {x : Nat} (hd : decode y.2.1 pc = .ok (.astore i, 2)) (hn : i < y.2.2.1) (hL : s_1 L i (.ref x) = L') (k : Jd l E y d R σ (pc + 2) L' st) : Jd l E y d R σ pc L (.ref x :: st) :=
  fun p e s m args below meth c H locs ls X hW hS hl => lv_astore X.1 X.2.1 hd hl hn hL (fun ls' hl' => k p e s m args below meth c H locs ls' X hW hS hl')
theorem J_iinc {i : Nat} {n : Int} {x : Int32} (q : Nat) (v : Int32) (hd : decode y.2.1 pc = .ok (.iinc i n, 3)) (hq : L[q]? = some (i, .int x)) (hv : x + Int32.ofInt n = v) (hn : i < y.2.2.1) (hL : s_1 L i (.int v) = L') (k : Jd l E y d R σ (pc + 3) L' st) : Jd l E y d R σ pc L st :=
  fun p e s m args below meth c H locs ls X hW hS hl => lv_iinc X.1 X.2.1 hd hl hq hv hn hL (fun ls' hl' => k p e s m args below meth c H locs ls' X hW hS hl')
theorem J_iadd {a b : Int32} (hd : decode y.2.1 pc = .ok (.iadd, 1)) (k : Jd l E y d R σ (pc + 1) L (.int (a + b) :: st)) : Jd l E y d R σ pc L (.int b :: .int a :: st) :=
  fun p e s m args below meth c H locs ls X hW hS hl => lv_iadd X.1 X.2.1 hd (k p e s m args below meth c H locs ls X hW hS hl)
theorem J_isub {a b : Int32} (hd : decode y.2.1 pc = .ok (.isub, 1)) (k : Jd l E y d R σ (pc + 1) L (.int (a - b) :: st)) : Jd l E y d R σ pc L (.int b :: .int a :: st) :=
  fun p e s m args below meth c H locs ls X hW hS hl => lv_isub X.1 X.2.1 hd (k p e s m args below meth c H locs ls X hW hS hl)
theorem J_imul {a b : Int32} (hd : decode y.2.1 pc = .ok (.imul, 1)) (k : Jd l E y d R σ (pc + 1) L (.int (a * b) :: st)) : Jd l E y d R σ pc L (.int b :: .int a :: st) :=
  fun p e s m args below meth c H locs ls X hW hS hl => lv_imul X.1 X.2.1 hd (k p e s m args below meth c H locs ls X hW hS hl)
theorem J_iand {a b : Int32} (hd : decode y.2.1 pc = .ok (.iand, 1)) (k : Jd l E y d R σ (pc + 1) L (.int (a &&& b) :: st)) : Jd l E y d R σ pc L (.int b :: .int a :: st) :=
  fun p e s m args below meth c H locs ls X hW hS hl => lv_iand X.1 X.2.1 hd (k p e s m args below meth c H locs ls X hW hS hl)
theorem J_ior {a b : Int32} (hd : decode y.2.1 pc = .ok (.ior, 1)) (k : Jd l E y d R σ (pc + 1) L (.int (a ||| b) :: st)) : Jd l E y d R σ pc L (.int b :: .int a :: st) :=
  fun p e s m args below meth c H locs ls X hW hS hl => lv_ior X.1 X.2.1 hd (k p e s m args below meth c H locs ls X hW hS hl)
theorem J_ixor {a b : Int32} (hd : decode y.2.1 pc = .ok (.ixor, 1)) (k : Jd l E y d R σ (pc + 1) L (.int (a ^^^ b) :: st)) : Jd l E y d R σ pc L (.int b :: .int a :: st) :=
  fun p e s m args below meth c H locs ls X hW hS hl => lv_ixor X.1 X.2.1 hd (k p e s m args below meth c H locs ls X hW hS hl)
theorem J_ishl {a b : Int32} (hd : decode y.2.1 pc = .ok (.ishl, 1)) (k : Jd l E y d R σ (pc + 1) L (.int (a <<< (b &&& 31)) :: st)) : Jd l E y d R σ pc L (.int b :: .int a :: st) :=
  fun p e s m args below meth c H locs ls X hW hS hl => lv_ishl X.1 X.2.1 hd (k p e s m args below meth c H locs ls X hW hS hl)
theorem J_ishr {a b : Int32} (hd : decode y.2.1 pc = .ok (.ishr, 1)) (k : Jd l E y d R σ (pc + 1) L (.int (a >>> (b &&& 31)) :: st)) : Jd l E y d R σ pc L (.int b :: .int a :: st) :=
  fun p e s m args below meth c H locs ls X hW hS hl => lv_ishr X.1 X.2.1 hd (k p e s m args below meth c H locs ls X hW hS hl)
theorem J_idiv {a b : Int32} (hd : decode y.2.1 pc = .ok (.idiv, 1)) (hne : ¬ b = 0) (k : Jd l E y d R σ (pc + 1) L (.int (a / b) :: st)) : Jd l E y d R σ pc L (.int b :: .int a :: st) :=
  fun p e s m args below meth c H locs ls X hW hS hl => lv_idiv X.1 X.2.1 hd hne (k p e s m args below meth c H locs ls X hW hS hl)
theorem J_irem {a b : Int32} (hd : decode y.2.1 pc = .ok (.irem, 1)) (hne : ¬ b = 0) (k : Jd l E y d R σ (pc + 1) L (.int (a - a / b * b) :: st)) : Jd l E y d R σ pc L (.int b :: .int a :: st) :=
  fun p e s m args below meth c H locs ls X hW hS hl => lv_irem X.1 X.2.1 hd hne (k p e s m args below meth c H locs ls X hW hS hl)
theorem J_ladd {a b : Int64} (hd : decode y.2.1 pc = .ok (.ladd, 1)) (k : Jd l E y d R σ (pc + 1) L (.long (a + b) :: st)) : Jd l E y d R σ pc L (.long b :: .long a :: st) :=
  fun p e s m args below meth c H locs ls X hW hS hl => lv_ladd X.1 X.2.1 hd (k p e s m args below meth c H locs ls X hW hS hl)
theorem J_lsub {a b : Int64} (hd : decode y.2.1 pc = .ok (.lsub, 1)) (k : Jd l E y d R σ (pc + 1) L (.long (a - b) :: st)) : Jd l E y d R σ pc L (.long b :: .long a :: st) :=
  fun p e s m args below meth c H locs ls X hW hS hl => lv_lsub X.1 X.2.1 hd (k p e s m args below meth c H locs ls X hW hS hl)
theorem J_lmul {a b : Int64} (hd : decode y.2.1 pc = .ok (.lmul, 1)) (k : Jd l E y d R σ (pc + 1) L (.long (a * b) :: st)) : Jd l E y d R σ pc L (.long b :: .long a :: st) :=
  fun p e s m args below meth c H locs ls X hW hS hl => lv_lmul X.1 X.2.1 hd (k p e s m args below meth c H locs ls X hW hS hl)
theorem J_land {a b : Int64} (hd : decode y.2.1 pc = .ok (.land, 1)) (k : Jd l E y d R σ (pc + 1) L (.long (a &&& b) :: st)) : Jd l E y d R σ pc L (.long b :: .long a :: st) :=
  fun p e s m args below meth c H locs ls X hW hS hl => lv_land X.1 X.2.1 hd (k p e s m args below meth c H locs ls X hW hS hl)
theorem J_lor {a b : Int64} (hd : decode y.2.1 pc = .ok (.lor, 1)) (k : Jd l E y d R σ (pc + 1) L (.long (a ||| b) :: st)) : Jd l E y d R σ pc L (.long b :: .long a :: st) :=
  fun p e s m args below meth c H locs ls X hW hS hl => lv_lor X.1 X.2.1 hd (k p e s m args below meth c H locs ls X hW hS hl)
theorem J_ldiv {a b : Int64} (hd : decode y.2.1 pc = .ok (.ldiv, 1)) (hne : ¬ b = 0) (k : Jd l E y d R σ (pc + 1) L (.long (a / b) :: st)) : Jd l E y d R σ pc L (.long b :: .long a :: st) :=
  fun p e s m args below meth c H locs ls X hW hS hl => lv_ldiv X.1 X.2.1 hd hne (k p e s m args below meth c H locs ls X hW hS hl)
theorem J_lrem {a b : Int64} (hd : decode y.2.1 pc = .ok (.lrem, 1)) (hne : ¬ b = 0) (k : Jd l E y d R σ (pc + 1) L (.long (a - a / b * b) :: st)) : Jd l E y d R σ pc L (.long b :: .long a :: st) :=
  fun p e s m args below meth c H locs ls X hW hS hl => lv_lrem X.1 X.2.1 hd hne (k p e s m args below meth c H locs ls X hW hS hl)
theorem J_ineg {a : Int32} (hd : decode y.2.1 pc = .ok (.ineg, 1)) (k : Jd l E y d R σ (pc + 1) L (.int (-a) :: st)) : Jd l E y d R σ pc L (.int a :: st) :=
  fun p e s m args below meth c H locs ls X hW hS hl => lv_ineg X.1 X.2.1 hd (k p e s m args below meth c H locs ls X hW hS hl)
theorem J_lneg {a : Int64} (hd : decode y.2.1 pc = .ok (.lneg, 1)) (k : Jd l E y d R σ (pc + 1) L (.long (-a) :: st)) : Jd l E y d R σ pc L (.long a :: st) :=
  fun p e s m args below meth c H locs ls X hW hS hl => lv_lneg X.1 X.2.1 hd (k p e s m args below meth c H locs ls X hW hS hl)
theorem J_i2l {a : Int32} (hd : decode y.2.1 pc = .ok (.i2l, 1)) (k : Jd l E y d R σ (pc + 1) L (.long (a.toInt64) :: st)) : Jd l E y d R σ pc L (.int a :: st) :=
  fun p e s m args below meth c H locs ls X hW hS hl => lv_i2l X.1 X.2.1 hd rfl (k p e s m args below meth c H locs ls X hW hS hl)
theorem J_l2i {a : Int64} (hd : decode y.2.1 pc = .ok (.l2i, 1)) (k : Jd l E y d R σ (pc + 1) L (.int (a.toInt32) :: st)) : Jd l E y d R σ pc L (.long a :: st) :=
  fun p e s m args below meth c H locs ls X hW hS hl => lv_l2i X.1 X.2.1 hd rfl (k p e s m args below meth c H locs ls X hW hS hl)
theorem J_i2b {a : Int32} (hd : decode y.2.1 pc = .ok (.i2b, 1)) (k : Jd l E y d R σ (pc + 1) L (.int (a.toInt8.toInt32) :: st)) : Jd l E y d R σ pc L (.int a :: st) :=
  fun p e s m args below meth c H locs ls X hW hS hl => lv_i2b X.1 X.2.1 hd rfl (k p e s m args below meth c H locs ls X hW hS hl)
theorem J_i2s {a : Int32} (hd : decode y.2.1 pc = .ok (.i2s, 1)) (k : Jd l E y d R σ (pc + 1) L (.int (a.toInt16.toInt32) :: st)) : Jd l E y d R σ pc L (.int a :: st) :=
  fun p e s m args below meth c H locs ls X hW hS hl => lv_i2s X.1 X.2.1 hd rfl (k p e s m args below meth c H locs ls X hW hS hl)
theorem J_i2c {a : Int32} (hd : decode y.2.1 pc = .ok (.i2c, 1)) (k : Jd l E y d R σ (pc + 1) L (.int ((a.toUInt32 % 65536).toInt32) :: st)) : Jd l E y d R σ pc L (.int a :: st) :=
  fun p e s m args below meth c H locs ls X hW hS hl => lv_i2c X.1 X.2.1 hd rfl (k p e s m args below meth c H locs ls X hW hS hl)
theorem J_lshl {a : Int64} {b : Int32} (hd : decode y.2.1 pc = .ok (.lshl, 1)) (k : Jd l E y d R σ (pc + 1) L (.long (a <<< (b.toInt64 &&& 63)) :: st)) : Jd l E y d R σ pc L (.int b :: .long a :: st) :=
  fun p e s m args below meth c H locs ls X hW hS hl => lv_lshl X.1 X.2.1 hd rfl (k p e s m args below meth c H locs ls X hW hS hl)
theorem J_iushr {a b : Int32} (hd : decode y.2.1 pc = .ok (.iushr, 1)) (k : Jd l E y d R σ (pc + 1) L (.int ((a.toUInt32 >>> (b.toUInt32 &&& Int32.toUInt32 31)).toInt32) :: st)) : Jd l E y d R σ pc L (.int b :: .int a :: st) :=
  fun p e s m args below meth c H locs ls X hW hS hl => lv_iushr X.1 X.2.1 hd rfl (k p e s m args below meth c H locs ls X hW hS hl)
theorem J_dup {v : Value} (hd : decode y.2.1 pc = .ok (.dup, 1)) (hc : v.category = 1) (k : Jd l E y d R σ (pc + 1) L (v :: v :: st)) : Jd l E y d R σ pc L (v :: st) :=
  fun p e s m args below meth c H locs ls X hW hS hl => lv_dup X.1 X.2.1 hd hc (k p e s m args below meth c H locs ls X hW hS hl)
theorem J_pop {v : Value} (hd : decode y.2.1 pc = .ok (.pop, 1)) (hc : v.category = 1) (k : Jd l E y d R σ (pc + 1) L st) : Jd l E y d R σ pc L (v :: st) :=
  fun p e s m args below meth c H locs ls X hW hS hl => lv_pop X.1 X.2.1 hd hc (k p e s m args below meth c H locs ls X hW hS hl)
theorem J_dup2 {v w : Value} (hd : decode y.2.1 pc = .ok (.dup2, 1)) (hc : v.category = 1) (hc2 : w.category = 1) (k : Jd l E y d R σ (pc + 1) L (v :: w :: v :: w :: st)) : Jd l E y d R σ pc L (v :: w :: st) :=
  fun p e s m args below meth c H locs ls X hW hS hl => lv_dup2_11 X.1 X.2.1 hd hc hc2 (k p e s m args below meth c H locs ls X hW hS hl)
theorem J_dup2L {v : Value} (hd : decode y.2.1 pc = .ok (.dup2, 1)) (hc : v.category = 2) (k : Jd l E y d R σ (pc + 1) L (v :: v :: st)) : Jd l E y d R σ pc L (v :: st) :=
  fun p e s m args below meth c H locs ls X hW hS hl => lv_dup2_2 X.1 X.2.1 hd hc (k p e s m args below meth c H locs ls X hW hS hl)
theorem J_goto {off : Int} (t : Nat) (hd : decode y.2.1 pc = .ok (.goto off, 3)) (ht : (pc : Int) + off = (t : Int)) (k : Jd l E y d R σ t L st) : Jd l E y d R σ pc L st :=
  fun p e s m args below meth c H locs ls X hW hS hl => lv_goto X.1 X.2.1 hd ht (k p e s m args below meth c H locs ls X hW hS hl)
theorem J_if_eq {α : Type} {ρ : α} {A B : Option α} {x : Int32} {off : Int} [Decidable (x = 0)] (t : Nat) (hd : decode y.2.1 pc = .ok (.ifCond .eq off, 3)) (ht : (pc : Int) + off = (t : Int)) (h : (if x = 0 then A else B) = some ρ) (kt : A = some ρ → Jd l E y d R σ t L st) (kf : B = some ρ → Jd l E y d R σ (pc + 3) L st) : Jd l E y d R σ pc L (.int x :: st) :=
  fun p e s m args below meth c H locs ls X hW hS hl => lv_if_eq X.1 X.2.1 hd ht (fun hc => kt (by first | (rw [if_pos hc] at h; exact h) | (rw [if_neg hc] at h; exact h)) p e s m args below meth c H locs ls X hW hS hl) (fun hc => kf (by first | (rw [if_pos hc] at h; exact h) | (rw [if_neg hc] at h; exact h)) p e s m args below meth c H locs ls X hW hS hl)
theorem J_if_ne {α : Type} {ρ : α} {A B : Option α} {x : Int32} {off : Int} [Decidable (x = 0)] (t : Nat) (hd : decode y.2.1 pc = .ok (.ifCond .ne off, 3)) (ht : (pc : Int) + off = (t : Int)) (h : (if x = 0 then A else B) = some ρ) (kt : B = some ρ → Jd l E y d R σ t L st) (kf : A = some ρ → Jd l E y d R σ (pc + 3) L st) : Jd l E y d R σ pc L (.int x :: st) :=
  fun p e s m args below meth c H locs ls X hW hS hl => lv_if_ne X.1 X.2.1 hd ht (fun hc => kt (by first | (rw [if_pos hc] at h; exact h) | (rw [if_neg hc] at h; exact h)) p e s m args below meth c H locs ls X hW hS hl) (fun hc => kf (by first | (rw [if_pos hc] at h; exact h) | (rw [if_neg hc] at h; exact h)) p e s m args below meth c H locs ls X hW hS hl)
theorem J_if_lt {α : Type} {ρ : α} {A B : Option α} {x : Int32} {off : Int} [Decidable (x < 0)] (t : Nat) (hd : decode y.2.1 pc = .ok (.ifCond .lt off, 3)) (ht : (pc : Int) + off = (t : Int)) (h : (if x < 0 then A else B) = some ρ) (kt : A = some ρ → Jd l E y d R σ t L st) (kf : B = some ρ → Jd l E y d R σ (pc + 3) L st) : Jd l E y d R σ pc L (.int x :: st) :=
  fun p e s m args below meth c H locs ls X hW hS hl => lv_if_lt X.1 X.2.1 hd ht (fun hc => kt (by first | (rw [if_pos hc] at h; exact h) | (rw [if_neg hc] at h; exact h)) p e s m args below meth c H locs ls X hW hS hl) (fun hc => kf (by first | (rw [if_pos hc] at h; exact h) | (rw [if_neg hc] at h; exact h)) p e s m args below meth c H locs ls X hW hS hl)
theorem J_if_ge {α : Type} {ρ : α} {A B : Option α} {x : Int32} {off : Int} [Decidable (0 ≤ x)] (t : Nat) (hd : decode y.2.1 pc = .ok (.ifCond .ge off, 3)) (ht : (pc : Int) + off = (t : Int)) (h : (if 0 ≤ x then A else B) = some ρ) (kt : A = some ρ → Jd l E y d R σ t L st) (kf : B = some ρ → Jd l E y d R σ (pc + 3) L st) : Jd l E y d R σ pc L (.int x :: st) :=
  fun p e s m args below meth c H locs ls X hW hS hl => lv_if_ge X.1 X.2.1 hd ht (fun hc => kt (by first | (rw [if_pos hc] at h; exact h) | (rw [if_neg hc] at h; exact h)) p e s m args below meth c H locs ls X hW hS hl) (fun hc => kf (by first | (rw [if_pos hc] at h; exact h) | (rw [if_neg hc] at h; exact h)) p e s m args below meth c H locs ls X hW hS hl)
theorem J_if_gt {α : Type} {ρ : α} {A B : Option α} {x : Int32} {off : Int} [Decidable (0 < x)] (t : Nat) (hd : decode y.2.1 pc = .ok (.ifCond .gt off, 3)) (ht : (pc : Int) + off = (t : Int)) (h : (if 0 < x then A else B) = some ρ) (kt : A = some ρ → Jd l E y d R σ t L st) (kf : B = some ρ → Jd l E y d R σ (pc + 3) L st) : Jd l E y d R σ pc L (.int x :: st) :=
  fun p e s m args below meth c H locs ls X hW hS hl => lv_if_gt X.1 X.2.1 hd ht (fun hc => kt (by first | (rw [if_pos hc] at h; exact h) | (rw [if_neg hc] at h; exact h)) p e s m args below meth c H locs ls X hW hS hl) (fun hc => kf (by first | (rw [if_pos hc] at h; exact h) | (rw [if_neg hc] at h; exact h)) p e s m args below meth c H locs ls X hW hS hl)
theorem J_if_le {α : Type} {ρ : α} {A B : Option α} {x : Int32} {off : Int} [Decidable (x ≤ 0)] (t : Nat) (hd : decode y.2.1 pc = .ok (.ifCond .le off, 3)) (ht : (pc : Int) + off = (t : Int)) (h : (if x ≤ 0 then A else B) = some ρ) (kt : A = some ρ → Jd l E y d R σ t L st) (kf : B = some ρ → Jd l E y d R σ (pc + 3) L st) : Jd l E y d R σ pc L (.int x :: st) :=
  fun p e s m args below meth c H locs ls X hW hS hl => lv_if_le X.1 X.2.1 hd ht (fun hc => kt (by first | (rw [if_pos hc] at h; exact h) | (rw [if_neg hc] at h; exact h)) p e s m args below meth c H locs ls X hW hS hl) (fun hc => kf (by first | (rw [if_pos hc] at h; exact h) | (rw [if_neg hc] at h; exact h)) p e s m args below meth c H locs ls X hW hS hl)
theorem J_icmp_eq {α : Type} {ρ : α} {A B : Option α} {x z : Int32} {off : Int} [Decidable (x = z)] (t : Nat) (hd : decode y.2.1 pc = .ok (.if_icmp .eq off, 3)) (ht : (pc : Int) + off = (t : Int)) (h : (if x = z then A else B) = some ρ) (kt : A = some ρ → Jd l E y d R σ t L st) (kf : B = some ρ → Jd l E y d R σ (pc + 3) L st) : Jd l E y d R σ pc L (.int z :: .int x :: st) :=
  fun p e s m args below meth c H locs ls X hW hS hl => lv_icmp_eq X.1 X.2.1 hd ht (fun hc => kt (by first | (rw [if_pos hc] at h; exact h) | (rw [if_neg hc] at h; exact h)) p e s m args below meth c H locs ls X hW hS hl) (fun hc => kf (by first | (rw [if_pos hc] at h; exact h) | (rw [if_neg hc] at h; exact h)) p e s m args below meth c H locs ls X hW hS hl)
theorem J_icmp_ne {α : Type} {ρ : α} {A B : Option α} {x z : Int32} {off : Int} [Decidable (x = z)] (t : Nat) (hd : decode y.2.1 pc = .ok (.if_icmp .ne off, 3)) (ht : (pc : Int) + off = (t : Int)) (h : (if x = z then A else B) = some ρ) (kt : B = some ρ → Jd l E y d R σ t L st) (kf : A = some ρ → Jd l E y d R σ (pc + 3) L st) : Jd l E y d R σ pc L (.int z :: .int x :: st) :=
  fun p e s m args below meth c H locs ls X hW hS hl => lv_icmp_ne X.1 X.2.1 hd ht (fun hc => kt (by first | (rw [if_pos hc] at h; exact h) | (rw [if_neg hc] at h; exact h)) p e s m args below meth c H locs ls X hW hS hl) (fun hc => kf (by first | (rw [if_pos hc] at h; exact h) | (rw [if_neg hc] at h; exact h)) p e s m args below meth c H locs ls X hW hS hl)
theorem J_icmp_lt {α : Type} {ρ : α} {A B : Option α} {x z : Int32} {off : Int} [Decidable (x < z)] (t : Nat) (hd : decode y.2.1 pc = .ok (.if_icmp .lt off, 3)) (ht : (pc : Int) + off = (t : Int)) (h : (if x < z then A else B) = some ρ) (kt : A = some ρ → Jd l E y d R σ t L st) (kf : B = some ρ → Jd l E y d R σ (pc + 3) L st) : Jd l E y d R σ pc L (.int z :: .int x :: st) :=
  fun p e s m args below meth c H locs ls X hW hS hl => lv_icmp_lt X.1 X.2.1 hd ht (fun hc => kt (by first | (rw [if_pos hc] at h; exact h) | (rw [if_neg hc] at h; exact h)) p e s m args below meth c H locs ls X hW hS hl) (fun hc => kf (by first | (rw [if_pos hc] at h; exact h) | (rw [if_neg hc] at h; exact h)) p e s m args below meth c H locs ls X hW hS hl)
theorem J_icmp_ge {α : Type} {ρ : α} {A B : Option α} {x z : Int32} {off : Int} [Decidable (z ≤ x)] (t : Nat) (hd : decode y.2.1 pc = .ok (.if_icmp .ge off, 3)) (ht : (pc : Int) + off = (t : Int)) (h : (if z ≤ x then A else B) = some ρ) (kt : A = some ρ → Jd l E y d R σ t L st) (kf : B = some ρ → Jd l E y d R σ (pc + 3) L st) : Jd l E y d R σ pc L (.int z :: .int x :: st) :=
  fun p e s m args below meth c H locs ls X hW hS hl => lv_icmp_ge X.1 X.2.1 hd ht (fun hc => kt (by first | (rw [if_pos hc] at h; exact h) | (rw [if_neg hc] at h; exact h)) p e s m args below meth c H locs ls X hW hS hl) (fun hc => kf (by first | (rw [if_pos hc] at h; exact h) | (rw [if_neg hc] at h; exact h)) p e s m args below meth c H locs ls X hW hS hl)
theorem J_icmp_gt {α : Type} {ρ : α} {A B : Option α} {x z : Int32} {off : Int} [Decidable (z < x)] (t : Nat) (hd : decode y.2.1 pc = .ok (.if_icmp .gt off, 3)) (ht : (pc : Int) + off = (t : Int)) (h : (if z < x then A else B) = some ρ) (kt : A = some ρ → Jd l E y d R σ t L st) (kf : B = some ρ → Jd l E y d R σ (pc + 3) L st) : Jd l E y d R σ pc L (.int z :: .int x :: st) :=
  fun p e s m args below meth c H locs ls X hW hS hl => lv_icmp_gt X.1 X.2.1 hd ht (fun hc => kt (by first | (rw [if_pos hc] at h; exact h) | (rw [if_neg hc] at h; exact h)) p e s m args below meth c H locs ls X hW hS hl) (fun hc => kf (by first | (rw [if_pos hc] at h; exact h) | (rw [if_neg hc] at h; exact h)) p e s m args below meth c H locs ls X hW hS hl)
theorem J_icmp_le {α : Type} {ρ : α} {A B : Option α} {x z : Int32} {off : Int} [Decidable (x ≤ z)] (t : Nat) (hd : decode y.2.1 pc = .ok (.if_icmp .le off, 3)) (ht : (pc : Int) + off = (t : Int)) (h : (if x ≤ z then A else B) = some ρ) (kt : A = some ρ → Jd l E y d R σ t L st) (kf : B = some ρ → Jd l E y d R σ (pc + 3) L st) : Jd l E y d R σ pc L (.int z :: .int x :: st) :=
  fun p e s m args below meth c H locs ls X hW hS hl => lv_icmp_le X.1 X.2.1 hd ht (fun hc => kt (by first | (rw [if_pos hc] at h; exact h) | (rw [if_neg hc] at h; exact h)) p e s m args below meth c H locs ls X hW hS hl) (fun hc => kf (by first | (rw [if_pos hc] at h; exact h) | (rw [if_neg hc] at h; exact h)) p e s m args below meth c H locs ls X hW hS hl)
theorem J_lcmp {a b : Int64} (hd : decode y.2.1 pc = .ok (.lcmp, 1)) (k : Jd l E y d R σ (pc + 1) L (.int (lg_cmp a b) :: st)) : Jd l E y d R σ pc L (.long b :: .long a :: st) :=
  fun p e s m args below meth c H locs ls X hW hS hl => W.lcmp X.1 X.2.1 hd (k p e s m args below meth c H locs ls X hW hS hl)
theorem J_tableIn {dflt lo hi off : Int} {offs : Array Int} {len : Nat} {x : Int32} (t : Nat) (hd : decode y.2.1 pc = .ok (.tableswitch dflt lo hi offs, len)) (h1 : ¬ x.toInt < lo) (h2 : ¬ hi < x.toInt) (ho : offs[(x.toInt - lo).toNat]? = some off) (ht : (pc : Int) + off = (t : Int)) (k : Jd l E y d R σ t L st) : Jd l E y d R σ pc L (.int x :: st) :=
  fun p e s m args below meth c H locs ls X hW hS hl => lv_tableIn X.1 X.2.1 hd h1 h2 ho ht (k p e s m args below meth c H locs ls X hW hS hl)
theorem J_tableOut {dflt lo hi : Int} {offs : Array Int} {len : Nat} {x : Int32} (t : Nat) (hd : decode y.2.1 pc = .ok (.tableswitch dflt lo hi offs, len)) (h1 : x.toInt < lo ∨ hi < x.toInt) (ht : (pc : Int) + dflt = (t : Int)) (k : Jd l E y d R σ t L st) : Jd l E y d R σ pc L (.int x :: st) :=
  fun p e s m args below meth c H locs ls X hW hS hl => lv_tableOut X.1 X.2.1 hd h1 ht (k p e s m args below meth c H locs ls X hW hS hl)
theorem J_iret {v : Int32} {ty : FieldType} (hd : decode y.2.1 pc = .ok (.ireturn, 1)) (hr : y.2.2.2 = some ty) (hn : narrow ty (.int v) = .int v) : Jd l E y d (some (.int v), σ) σ pc L [.int v] :=
  fun p e s m args below meth c H locs ls X hW hS hl => W.zret X.1 X.2.1 (X.2.2.2.1.trans hr) hn (fun t ht hw => ⟨rfl, hW.warm hw ht, hS.F ht⟩) hS.2.2 hd X.2.2.2.2.2.2
theorem J_lret {v : Int64} (hd : decode y.2.1 pc = .ok (.lreturn, 1)) (hr : y.2.2.2 = some .long) : Jd l E y d (some (.long v), σ) σ pc L [.long v] :=
  fun p e s m args below meth c H locs ls X hW hS hl => W.lret X.1 X.2.1 (X.2.2.2.1.trans hr) (fun t ht hw => ⟨rfl, hW.warm hw ht, hS.F ht⟩) hS.2.2 hd X.2.2.2.2.2.2
theorem J_vret (hd : decode y.2.1 pc = .ok (.return_, 1)) (hr : y.2.2.2 = none) : Jd l E y d (none, σ) σ pc L [] :=
  fun p e s m args below meth c H locs ls X hW hS hl => W.vret X.1 X.2.1 (X.2.2.2.1.trans hr) (fun t ht hw => ⟨rfl, hW.warm hw ht, hS.F ht⟩) hS.2.2 hd X.2.2.2.2.2.2
end JL
/-! MEMORY, inside a method -/
def CK (ci : Nat) (C : String) (T : u_T) (N : Nat) (ty : Nat → FieldType) : Prop := vwCl[ci]? = some (C, T, N) ∧ N = nF ci ∧ (∀ w ∈ u_ws C T N, w ∈ GW) ∧ (∀ k, k < N → parseFieldDescriptor (T k).2.2.1 = some (ty k)) ∧ ∀ a, a < N → ∀ b, b < N → a ≠ b → (T a).2.1 ≠ (T b).2.1
/-- a pool entry of the class own: the field k of class ci -/
def FL (own : String) (idx ci k : Nat) (fin : Bool) (tk : FieldType) : Prop := ∃ (C : String) (T : u_T) (N : Nat) (ty : Nat → FieldType), CK ci C T N ty ∧ ci < 13 ∧ k < N ∧ Cond.fieldLink own idx (T k).1 (T k).2.1 (T k).2.2.1 ∈ GW ∧ (T k).2.2.2 = fin ∧ ty k = tk
theorem FL.of {own : String} {idx ci k : Nat} {fin : Bool} {tk : FieldType} {C : String} {T : u_T} {N : Nat} {ty : Nat → FieldType} (h : CK ci C T N ty) (h1 : ci < 13) (h2 : k < N) {w : Cond} (h3 : w ∈ GW) (h6 : w = Cond.fieldLink own idx (T k).1 (T k).2.1 (T k).2.2.1) (h4 : (T k).2.2.2 = fin) (h5 : ty k = tk) : FL own idx ci k fin tk := ⟨C, T, N, ty, h, h1, h2, h6 ▸ h3, h4, h5⟩
section JM
variable {l : Launch} {E : EV} {y : MI} {d : Nat} {R : Option Value × Mm} {σ : Mm} {pc : Nat} {L L' : List (Nat × Value)} {st : List Value} {α : Type} {ρ : α}
theorem J_get {idx ci k o : Nat} {fin : Bool} {tk : FieldType} (hd : decode y.2.1 pc = .ok (.getfield idx, 3)) (ho : KD o = ci) (hF : FL y.1.cls idx ci k fin tk) (kk : Jd l E y d R σ (pc + 3) L (fv E σ o k :: st)) : Jd l E y d R σ pc L (.ref (e_a E o 0) :: st) := by
  intro p e s m args below meth c H locs ls X hW hS hl
  obtain ⟨C, T, N, ty, ⟨hc, hN, hin, hty, hnm⟩, h13, hk, hlink, -, -⟩ := hF
  subst ho
  obtain ⟨cell, q1, q2, q3, q4⟩ := hW.2.2.2.1 o h13
  obtain ⟨hSl, hfc, kC, hkC, hkind⟩ := hW.2.1.1.1 _ _ hc
  obtain ⟨cf, kf, fi, f, hi, hsl⟩ := hSl k hk
  refine W.getf X.1 X.2.1 X.2.2.2.2.1 (X.2.2.2.2.2.1 _ hlink) hi (u_facts hfc hkC (u_lays X.2.2.2.2.2.1 hin hk) hi).1 q1 (by rw [q3]; exact fun h => by cases h) (v := fv E σ o k) ?_ rfl rfl hd (kk p e s m args below meth c H locs ls X hW hS hl)
  rw [hsl]
  exact q4 k (hN ▸ hk)
/-- reads -/
def r_sc (σ : Mm) (o k : Nat) (K : Int32 → Option α) : Option α := K (m_sc σ o k)
def r_lg (σ : Mm) (o k : Nat) (K : Int64 → Option α) : Option α := K (m_lg σ o k)
def r_rf (σ : Mm) (o k ci : Nat) (K : Nat → Option α) : Option α := match m_rf σ o k with
  | some q => if KD q = ci then K q else none
  | none => none
theorem J_getI {idx ci k o z : Nat} {fin : Bool} {tk : FieldType} {K : Int32 → Option α} (hd : decode y.2.1 pc = .ok (.getfield idx, 3)) (ho : KD o = ci) (hF : FL y.1.cls idx ci k fin tk) (hf : fc ci k = (0, z)) (h : r_sc σ o k K = some ρ) (kk : ∀ x, K x = some ρ → Jd l E y d R σ (pc + 3) L (.int x :: st)) : Jd l E y d R σ pc L (.ref (e_a E o 0) :: st) := by
  refine J_get hd ho hF ?_
  rw [show fv E σ o k = .int (m_sc σ o k) by simp [fv, ho, hf]]
  exact kk _ h
theorem J_getL {idx ci k o z : Nat} {fin : Bool} {tk : FieldType} {K : Int64 → Option α} (hd : decode y.2.1 pc = .ok (.getfield idx, 3)) (ho : KD o = ci) (hF : FL y.1.cls idx ci k fin tk) (hf : fc ci k = (1, z)) (h : r_lg σ o k K = some ρ) (kk : ∀ x, K x = some ρ → Jd l E y d R σ (pc + 3) L (.long x :: st)) : Jd l E y d R σ pc L (.ref (e_a E o 0) :: st) := by
  refine J_get hd ho hF ?_
  rw [show fv E σ o k = .long (m_lg σ o k) by simp [fv, ho, hf]]
  exact kk _ h
theorem J_getR {idx ci k o z c2 : Nat} {fin : Bool} {tk : FieldType} {K : Nat → Option α} (hd : decode y.2.1 pc = .ok (.getfield idx, 3)) (ho : KD o = ci) (hF : FL y.1.cls idx ci k fin tk) (hf : fc ci k = (2, z)) (h : r_rf σ o k c2 K = some ρ) (kk : ∀ q, KD q = c2 → K q = some ρ → Jd l E y d R σ (pc + 3) L (.ref (e_a E q 0) :: st)) : Jd l E y d R σ pc L (.ref (e_a E o 0) :: st) := by
  refine J_get hd ho hF ?_
  unfold r_rf at h
  cases hq : m_rf σ o k with
  | none => rw [hq] at h; cases h
  | some q =>
    rw [hq] at h
    dsimp only at h
    split at h
    · rename_i hk2
      rw [show fv E σ o k = .ref (e_a E q 0) by simp [fv, ho, hf, hq, va_rf]]
      exact kk q hk2 h
    · cases h
theorem J_getA {idx ci k o j : Nat} {fin : Bool} {tk : FieldType} (hd : decode y.2.1 pc = .ok (.getfield idx, 3)) (ho : KD o = ci) (hF : FL y.1.cls idx ci k fin tk) (hf : fc ci k = (3, j)) (kk : Jd l E y d R σ (pc + 3) L (.ref (e_a E o (j + 1)) :: st)) : Jd l E y d R σ pc L (.ref (e_a E o 0) :: st) := by
  refine J_get hd ho hF ?_
  rw [show fv E σ o k = .ref (e_a E o (j + 1)) by simp [fv, ho, hf]]
  exact kk
theorem J_getT {idx ci k o z : Nat} {fin : Bool} {tk : FieldType} (hd : decode y.2.1 pc = .ok (.getfield idx, 3)) (ho : KD o = ci) (hF : FL y.1.cls idx ci k fin tk) (hf : fc ci k = (4, z)) (kk : Jd l E y d R σ (pc + 3) L (.ref (e_a E (tg o k) 0) :: st)) : Jd l E y d R σ pc L (.ref (e_a E o 0) :: st) := by
  refine J_get hd ho hF ?_
  rw [show fv E σ o k = .ref (e_a E (tg o k) 0) by simp [fv, ho, hf]]
  exact kk
/-- the heap behind a change of one cell -/
theorem HO.objAt {E : EV} {σ σ' : Mm} {H H1 : Heap} {o : Nat} (g : GE E) (h : HO E σ H) (ho : KD o < 13) (h1 : t_OB (e_a E o 0) (E.1.1 (KD o)) (nF (KD o)) (E.1.2 (KD o)) H1 (fv E σ' o)) (oq : ∀ q : Nat, q ≠ e_a E o 0 → H1[q]? = H[q]?) (hf : ∀ o', o' ≠ o → ∀ k, fv E σ' o' k = fv E σ o' k) (ha : ∀ o' j, ac E σ' o' j = ac E σ o' j) : HO E σ' H1 := by
  refine ⟨fun o' ho' => ?_, fun o' j ho' hj => ?_⟩
  · by_cases e : o' = o
    · subst e; exact h1
    · refine ((h.1 o' ho').kept (oq _ fun z => e (g.1 o' 0 o 0 ⟨ho', Nat.zero_le _⟩ ⟨ho, Nat.zero_le _⟩ z).1)).to fun k _ => (hf o' e k).symm
  · rw [oq _ fun z => Nat.succ_ne_zero j (g.1 o' (j + 1) o 0 ⟨ho', hj⟩ ⟨ho, Nat.zero_le _⟩ z).2, ha]
    exact h.2 o' j ho' hj
theorem HO.arrAt {E : EV} {σ σ' : Mm} {H H1 : Heap} {o j : Nat} (g : GE E) (h : HO E σ H) (ho : KD o < 13) (hj : j < nA (KD o)) (h1 : H1[e_a E o (j + 1)]? = some (vp_cell (e_c E (at_ (KD o) j).1) (ac E σ' o j))) (oq : ∀ q : Nat, q ≠ e_a E o (j + 1) → H1[q]? = H[q]?) (hf : ∀ o' k, fv E σ' o' k = fv E σ o' k) (ha : ∀ o' j', ¬ (o' = o ∧ j' = j) → ac E σ' o' j' = ac E σ o' j') : HO E σ' H1 := by
  refine ⟨fun o' ho' => ?_, fun o' j' ho' hj' => ?_⟩
  · refine ((h.1 o' ho').kept (oq _ fun z => ?_)).to fun k _ => (hf o' k).symm
    exact Nat.succ_ne_zero j (g.1 o' 0 o (j + 1) ⟨ho', Nat.zero_le _⟩ ⟨ho, hj⟩ z).2.symm
  · by_cases e : o' = o ∧ j' = j
    · obtain ⟨rfl, rfl⟩ := e; exact h1
    · rw [oq _ fun z => e ?_, ha o' j' e]
      · exact h.2 o' j' ho' hj'
      · have q := g.1 o' (j' + 1) o (j + 1) ⟨ho', hj'⟩ ⟨ho, hj⟩ z
        exact ⟨q.1, Nat.succ.inj q.2⟩
theorem SH.put {E : EV} {s : State} {H H1 : Heap} {a : Nat} (h : SH E s H) (oq : ∀ q : Nat, q ≠ a → H1[q]? = H[q]?) (ha : e_B E ≤ a) : SH E s H1 := h.kept fun q _ hq => oq q fun z => hq (by rw [z]; exact ha)
theorem J_put {idx ci k o : Nat} {tk : FieldType} {v : Value} {σ' : Mm} (hd : decode y.2.1 pc = .ok (.putfield idx, 3)) (ho : KD o = ci) (hF : FL y.1.cls idx ci k false tk) (hn : narrow tk v = v) (hfit : fits tk v = true) (hv : fv E σ' o k = v) (hs : ∀ k', k' ≠ k → fv E σ' o k' = fv E σ o k') (hf : ∀ o', o' ≠ o → ∀ k, fv E σ' o' k = fv E σ o' k) (ha : ∀ o' j, ac E σ' o' j = ac E σ o' j) (kk : Jd l E y d R σ' (pc + 3) L st) : Jd l E y d R σ pc L (v :: .ref (e_a E o 0) :: st) := by
  intro p e s m args below meth c H locs ls X hW hS hl
  obtain ⟨C, T, N, ty, ⟨hc, hN, hin, hty, hnm⟩, h13, hk, hlink, hfin, htk⟩ := hF
  subst ho
  have hap := va_apart (own := y.1.cls) X.2.2.2.2.2.1 hin ty hty hnm hW.2.1.1 hc
  obtain ⟨cell, q1, q2, q3, q4⟩ := hW.2.2.2.1 o h13
  obtain ⟨hSl, hfc, kC, hkC, hkind⟩ := hW.2.1.1.1 _ _ hc
  obtain ⟨cf, kf, fi, f, hi, hsl⟩ := hSl k hk
  have hlay := X.2.2.2.2.2.1 _ (hin _ (u_in_lay hk))
  unfold u_lay at hlay
  rw [if_neg (by rw [hfin]; decide)] at hlay
  have hst := (u_facts hfc hkC (u_lays X.2.2.2.2.2.1 hin hk) hi).1
  have h6 := u_store hfc hkC hkind hlay hi (by rw [hty k hk, htk]) hn hfit
  have q4' : ∀ j, j < N → cell.slots[(E.1.2 (KD o)) j]? = some (fv E σ o j) := fun j hj => q4 j (hN ▸ hj)
  refine W.putK X.1 X.2.1 (f := f) ⟨X.2.2.2.2.1, X.2.2.2.2.2.1 _ hlink, ⟨_, _, _, hi⟩, hst⟩ (by rw [q2]; exact h6) q1 q3 (by rw [hsl]; exact k2_hasslot (q4' k hk)) rfl rfl hd fun H' e1 e2 e3 => ?_
  rw [hsl] at e1 ⊢
  have hB : e_B E ≤ e_a E o 0 := hW.1.2 o 0 ⟨h13, Nat.zero_le _⟩
  refine kk p e s m args below meth c H' _ ls X ⟨hW.1, hW.2.1, hW.2.2.1.put e3 hB, hW.2.2.2.objAt hW.1 h13 ?_ e3 hf ha⟩ (hS.put e2 e3 hB) hl
  refine t_OB.to (V := updV (fv E σ o) k v) ⟨_, e1, q2, q3, ?_⟩ (fun j _ => ?_)
  · rw [← hN]
    exact t_set q4' hap hk v
  · by_cases e : j = k
    · subst e; simp [updV, hv]
    · simp [updV, e, hs j e]
/-- writes -/
def p_sc (σ : Mm) (o k : Nat) (v : Int32) (K : Mm → Option α) : Option α := K (w_sc σ o k v)
def p_lg (σ : Mm) (o k : Nat) (v : Int64) (K : Mm → Option α) : Option α := K (w_lg σ o k v)
def p_rf (σ : Mm) (o k q : Nat) (K : Mm → Option α) : Option α := K (w_rf σ o k (some q))
def p_bz (σ : Mm) (o k : Nat) (v : Int32) (K : Mm → Option α) : Option α := if v = 0 ∨ v = 1 then K (w_sc σ o k v) else none
theorem J_putI {idx ci k o z : Nat} {v : Int32} {K : Mm → Option α} (hd : decode y.2.1 pc = .ok (.putfield idx, 3)) (ho : KD o = ci) (hF : FL y.1.cls idx ci k false .int) (hc : fc ci k = (0, z)) (h : p_sc σ o k v K = some ρ) (kk : ∀ τ, K τ = some ρ → Jd l E y d R τ (pc + 3) L st) : Jd l E y d R σ pc L (.int v :: .ref (e_a E o 0) :: st) := by
  refine J_put (σ' := w_sc σ o k v) hd ho hF rfl rfl ?_ ?_ ?_ ?_ (kk _ h)
  · simp [fv, ho, hc, w_sc, m_sc, u_2]
  · intro k' hk'; simp [fv, w_sc, m_sc, m_lg, m_rf, u_2, hk']
  · intro o' ho' k'; simp [fv, w_sc, m_sc, m_lg, m_rf, u_2, ho']
  · intro o' j; rfl
theorem J_putZ {idx ci k o z : Nat} {v : Int32} {K : Mm → Option α} (hd : decode y.2.1 pc = .ok (.putfield idx, 3)) (ho : KD o = ci) (hF : FL y.1.cls idx ci k false .boolean) (hc : fc ci k = (0, z)) (h : p_bz σ o k v K = some ρ) (kk : ∀ τ, K τ = some ρ → Jd l E y d R τ (pc + 3) L st) : Jd l E y d R σ pc L (.int v :: .ref (e_a E o 0) :: st) := by
  unfold p_bz at h
  split at h
  · rename_i hb
    refine J_put (σ' := w_sc σ o k v) hd ho hF ?_ ?_ ?_ ?_ ?_ ?_ (kk _ h)
    · rcases hb with rfl | rfl <;> rfl
    · rcases hb with rfl | rfl <;> rfl
    · simp [fv, ho, hc, w_sc, m_sc, u_2]
    · intro k' hk'; simp [fv, w_sc, m_sc, m_lg, m_rf, u_2, hk']
    · intro o' ho' k'; simp [fv, w_sc, m_sc, m_lg, m_rf, u_2, ho']
    · intro o' j; rfl
  · cases h
theorem J_putL {idx ci k o z : Nat} {v : Int64} {K : Mm → Option α} (hd : decode y.2.1 pc = .ok (.putfield idx, 3)) (ho : KD o = ci) (hF : FL y.1.cls idx ci k false .long) (hc : fc ci k = (1, z)) (h : p_lg σ o k v K = some ρ) (kk : ∀ τ, K τ = some ρ → Jd l E y d R τ (pc + 3) L st) : Jd l E y d R σ pc L (.long v :: .ref (e_a E o 0) :: st) := by
  refine J_put (σ' := w_lg σ o k v) hd ho hF rfl rfl ?_ ?_ ?_ ?_ (kk _ h)
  · simp [fv, ho, hc, w_lg, m_lg, u_2]
  · intro k' hk'; simp [fv, w_lg, m_sc, m_lg, m_rf, u_2, hk']
  · intro o' ho' k'; simp [fv, w_lg, m_sc, m_lg, m_rf, u_2, ho']
  · intro o' j; rfl
theorem J_putR {idx ci k o z q : Nat} {C : String} {K : Mm → Option α} (hd : decode y.2.1 pc = .ok (.putfield idx, 3)) (ho : KD o = ci) (hF : FL y.1.cls idx ci k false (.object C)) (hc : fc ci k = (2, z)) (h : p_rf σ o k q K = some ρ) (kk : ∀ τ, K τ = some ρ → Jd l E y d R τ (pc + 3) L st) : Jd l E y d R σ pc L (.ref (e_a E q 0) :: .ref (e_a E o 0) :: st) := by
  refine J_put (σ' := w_rf σ o k (some q)) hd ho hF rfl rfl ?_ ?_ ?_ ?_ (kk _ h)
  · simp [fv, ho, hc, w_rf, m_rf, u_2, va_rf]
  · intro k' hk'; simp [fv, w_rf, m_sc, m_lg, m_rf, u_2, hk']
  · intro o' ho' k'; simp [fv, w_rf, m_sc, m_lg, m_rf, u_2, ho']
  · intro o' j; rfl
/-- arrays: n the length -/
def g_ar (σ : Mm) (o j n : Nat) (i : Int32) (K : Int32 → Option α) : Option α := if i < 0 ∨ n ≤ i.toNatClampNeg then none else K (m_ar σ o j i.toNatClampNeg)
def g_la (σ : Mm) (o j n : Nat) (i : Int32) (K : Int64 → Option α) : Option α := if i < 0 ∨ n ≤ i.toNatClampNeg then none else K (m_la σ o j i.toNatClampNeg)
def s_ar (σ : Mm) (o j n : Nat) (i v : Int32) (K : Mm → Option α) : Option α := if i < 0 ∨ n ≤ i.toNatClampNeg then none else K (w_ar σ o j i.toNatClampNeg v)
def s_la (σ : Mm) (o j n : Nat) (i : Int32) (v : Int64) (K : Mm → Option α) : Option α := if i < 0 ∨ n ≤ i.toNatClampNeg then none else K (w_la σ o j i.toNatClampNeg v)
/-- a row of blocks -/
def g_bl (j n : Nat) (i : Int32) (K : Nat → Option α) : Option α := if i < 0 ∨ n ≤ i.toNatClampNeg then none else K (ra j i.toNatClampNeg)
theorem J_iald {ci o j n : Nat} {i : Int32} {K : Int32 → Option α} (hd : decode y.2.1 pc = .ok (.iaload, 1)) (ho : KD o = ci) (hc : ci < 13 ∧ j < nA ci ∧ at_ ci j = (1, n)) (h : g_ar σ o j n i K = some ρ) (kk : ∀ x, K x = some ρ → Jd l E y d R σ (pc + 1) L (.int x :: st)) : Jd l E y d R σ pc L (.int i :: .ref (e_a E o (j + 1)) :: st) := by
  intro p e s m args below meth c H locs ls X hW hS hl
  subst ho
  unfold g_ar at h
  split at h
  · cases h
  rename_i hi
  have hcell := hW.2.2.2.2 o j hc.1 hc.2.1
  rw [show ac E σ o j = (n, .inl (m_ar σ o j)) by simp [ac, hc.2.2], hc.2.2] at hcell
  have hlt : i.toNatClampNeg < n := Nat.not_le.mp fun q => hi (Or.inr q)
  exact W.iald (v := .int (m_ar σ o j i.toNatClampNeg)) X.1 X.2.1 hcell ((hW.2.1.1.2 1 _ rfl).1 n (fun q => .int (m_ar σ o j q))) (fun q => by cases q) (by show ¬ (i < 0 ∨ (arrV _ _ _).slots.size ≤ _); rw [arrV_size]; exact hi) (by show (arrV _ _ _).slots[_]? = _; rw [arrV_read _ _ hlt]) rfl rfl hd (kk _ h p e s m args below meth c H locs ls X hW hS hl)
theorem J_bald {ci o j n : Nat} {i : Int32} {K : Int32 → Option α} (hd : decode y.2.1 pc = .ok (.baload, 1)) (ho : KD o = ci) (hc : ci < 13 ∧ j < nA ci ∧ at_ ci j = (0, n)) (h : g_ar σ o j n i K = some ρ) (kk : ∀ x, K x = some ρ → Jd l E y d R σ (pc + 1) L (.int x :: st)) : Jd l E y d R σ pc L (.int i :: .ref (e_a E o (j + 1)) :: st) := by
  intro p e s m args below meth c H locs ls X hW hS hl
  subst ho
  unfold g_ar at h
  split at h
  · cases h
  rename_i hi
  have hcell := hW.2.2.2.2 o j hc.1 hc.2.1
  rw [show ac E σ o j = (n, .inl (m_ar σ o j)) by simp [ac, hc.2.2], hc.2.2] at hcell
  have hlt : i.toNatClampNeg < n := Nat.not_le.mp fun q => hi (Or.inr q)
  exact W.bald (v := .int (m_ar σ o j i.toNatClampNeg)) X.1 X.2.1 hcell ((hW.2.1.1.2 0 _ rfl).1 n (fun q => .int (m_ar σ o j q))) (fun q => by cases q) (by show ¬ (i < 0 ∨ (arrV _ _ _).slots.size ≤ _); rw [arrV_size]; exact hi) (by show (arrV _ _ _).slots[_]? = _; rw [arrV_read _ _ hlt]) rfl rfl hd (kk _ h p e s m args below meth c H locs ls X hW hS hl)
theorem J_lald {ci o j n : Nat} {i : Int32} {K : Int64 → Option α} (hd : decode y.2.1 pc = .ok (.laload, 1)) (ho : KD o = ci) (hc : ci < 13 ∧ j < nA ci ∧ at_ ci j = (2, n)) (h : g_la σ o j n i K = some ρ) (kk : ∀ x, K x = some ρ → Jd l E y d R σ (pc + 1) L (.long x :: st)) : Jd l E y d R σ pc L (.int i :: .ref (e_a E o (j + 1)) :: st) := by
  intro p e s m args below meth c H locs ls X hW hS hl
  subst ho
  unfold g_la at h
  split at h
  · cases h
  rename_i hi
  have hcell := hW.2.2.2.2 o j hc.1 hc.2.1
  rw [show ac E σ o j = (n, .inr (.inl (m_la σ o j))) by simp [ac, hc.2.2], hc.2.2] at hcell
  have hlt : i.toNatClampNeg < n := Nat.not_le.mp fun q => hi (Or.inr q)
  exact W.lald (v := .long (m_la σ o j i.toNatClampNeg)) X.1 X.2.1 hcell ((hW.2.1.1.2 2 _ rfl).1 n (fun q => .long (m_la σ o j q))) (fun q => by cases q) (by show ¬ (i < 0 ∨ (arrV _ _ _).slots.size ≤ _); rw [arrV_size]; exact hi) (by show (arrV _ _ _).slots[_]? = _; rw [arrV_read _ _ hlt]) rfl rfl hd (kk _ h p e s m args below meth c H locs ls X hW hS hl)
theorem J_aald {ci o j n t : Nat} {C : String} {i : Int32} {K : Nat → Option α} (hd : decode y.2.1 pc = .ok (.aaload, 1)) (ho : KD o = ci) (hc : ci < 13 ∧ j < nA ci ∧ at_ ci j = (t + 3, n)) (ht : (tyl E)[t + 3]? = some (e_c E (t + 3), .object C)) (h : g_bl j n i K = some ρ) (kk : ∀ a, a < n → K (ra j a) = some ρ → Jd l E y d R σ (pc + 1) L (.ref (e_a E (ra j a) 0) :: st)) : Jd l E y d R σ pc L (.int i :: .ref (e_a E o (j + 1)) :: st) := by
  intro p e s m args below meth c H locs ls X hW hS hl
  subst ho
  unfold g_bl at h
  split at h
  · cases h
  rename_i hi
  have hcell := hW.2.2.2.2 o j hc.1 hc.2.1
  rw [show ac E σ o j = (n, .inr (.inr (.inr (.inr (fun i => some (e_a E (ra j i) 0)))))) by simp [ac, hc.2.2], hc.2.2] at hcell
  have hlt : i.toNatClampNeg < n := Nat.not_le.mp fun q => hi (Or.inr q)
  exact W.aald (v := .ref (e_a E (ra j i.toNatClampNeg) 0)) (ty := .object C) X.1 X.2.1 hcell ((hW.2.1.1.2 (t + 3) _ ht).1 n (fun q => va_rf (some (e_a E (ra j q) 0)))) rfl (fun q => by cases q) (by show ¬ (i < 0 ∨ (arrV _ _ _).slots.size ≤ _); rw [arrV_size]; exact hi) (by show (arrV _ _ _).slots[_]? = _; rw [arrV_read _ _ hlt]; rfl) rfl rfl hd (kk _ hlt h p e s m args below meth c H locs ls X hW hS hl)
theorem fv_af {E : EV} {σ : Mm} {o j : Nat} {g : Nat → Int32} (o' k : Nat) : fv E (w_af σ o j g) o' k = fv E σ o' k := rfl
theorem fv_lf {E : EV} {σ : Mm} {o j : Nat} {g : Nat → Int64} (o' k : Nat) : fv E (w_lf σ o j g) o' k = fv E σ o' k := rfl
theorem ac_af {E : EV} {σ : Mm} {o j : Nat} {g : Nat → Int32} {o' j' : Nat} (h : ¬ (o' = o ∧ j' = j)) : ac E (w_af σ o j g) o' j' = ac E σ o' j' := by
  have e : m_ar (w_af σ o j g) o' j' = m_ar σ o' j' := by simp [m_ar, w_af, u_3, h]
  unfold ac
  rw [e]
  rfl
theorem ac_lf {E : EV} {σ : Mm} {o j : Nat} {g : Nat → Int64} {o' j' : Nat} (h : ¬ (o' = o ∧ j' = j)) : ac E (w_lf σ o j g) o' j' = ac E σ o' j' := by
  have e : m_la (w_lf σ o j g) o' j' = m_la σ o' j' := by simp [m_la, w_lf, u_3, h]
  unfold ac
  rw [e]
  rfl
theorem ac_afs {E : EV} {σ : Mm} {o j n t : Nat} {g : Nat → Int32} (h : at_ (KD o) j = (t, n)) (ht : t = 0 ∨ t = 1) : ac E (w_af σ o j g) o j = (n, .inl g) := by
  have e : m_ar (w_af σ o j g) o j = g := by simp [m_ar, w_af, u_3]
  unfold ac
  rw [e, h]
  rcases ht with rfl | rfl <;> rfl
theorem ac_lfs {E : EV} {σ : Mm} {o j n : Nat} {g : Nat → Int64} (h : at_ (KD o) j = (2, n)) : ac E (w_lf σ o j g) o j = (n, .inr (.inl g)) := by
  have e : m_la (w_lf σ o j g) o j = g := by simp [m_la, w_lf, u_3]
  unfold ac
  rw [e, h]
  rfl
theorem updV_i (f : Nat → Int32) (k : Nat) (x : Int32) : updV (fun q => Value.int (f q)) k (.int x) = fun q => Value.int (upd f k x q) := by
  funext q; by_cases h : q = k <;> simp [updV, upd, h]
theorem updV_l (f : Nat → Int64) (k : Nat) (x : Int64) : updV (fun q => Value.long (f q)) k (.long x) = fun q => Value.long (vp_updL f k x q) := by
  funext q; by_cases h : q = k <;> simp [updV, vp_updL, h]
theorem J_iast {ci o j n : Nat} {i v : Int32} {K : Mm → Option α} (hd : decode y.2.1 pc = .ok (.iastore, 1)) (ho : KD o = ci) (hc : ci < 13 ∧ j < nA ci ∧ at_ ci j = (1, n)) (h : s_ar σ o j n i v K = some ρ) (kk : ∀ τ, K τ = some ρ → Jd l E y d R τ (pc + 1) L st) : Jd l E y d R σ pc L (.int v :: .int i :: .ref (e_a E o (j + 1)) :: st) := by
  intro p e s m args below meth c H locs ls X hW hS hl
  subst ho
  unfold s_ar at h
  split at h
  · cases h
  rename_i hi
  have hcell := hW.2.2.2.2 o j hc.1 hc.2.1
  rw [show ac E σ o j = (n, .inl (m_ar σ o j)) by simp [ac, hc.2.2], hc.2.2] at hcell
  have hB : e_B E ≤ e_a E o (j + 1) := hW.1.2 o (j + 1) ⟨hc.1, hc.2.1⟩
  refine W.iast X.1 X.2.1 hcell ((hW.2.1.1.2 1 _ rfl).1 n (fun q => .int (m_ar σ o j q))) (fun q => by cases q) (by show ¬ (i < 0 ∨ (arrV _ _ _).slots.size ≤ _); rw [arrV_size]; exact hi) rfl rfl hd fun H1 e1 z oq => ?_
  refine kk _ h p e s m args below meth c H1 _ ls X ⟨hW.1, hW.2.1, hW.2.2.1.put oq hB, hW.2.2.2.arrAt hW.1 hc.1 hc.2.1 ?_ oq fv_af (fun _ _ => ac_af)⟩ (hS.put z oq hB) hl
  rw [e1, show ac E (w_ar σ o j i.toNatClampNeg v) o j = _ from ac_afs hc.2.2 (Or.inr rfl), hc.2.2, vp_cell_i, vp_cell_i, arrV_store, updV_i]
theorem J_bast {ci o j n : Nat} {i v : Int32} {K : Mm → Option α} (hd : decode y.2.1 pc = .ok (.bastore, 1)) (ho : KD o = ci) (hc : ci < 13 ∧ j < nA ci ∧ at_ ci j = (0, n)) (h : s_ar σ o j n i v.toInt8.toInt32 K = some ρ) (kk : ∀ τ, K τ = some ρ → Jd l E y d R τ (pc + 1) L st) : Jd l E y d R σ pc L (.int v :: .int i :: .ref (e_a E o (j + 1)) :: st) := by
  intro p e s m args below meth c H locs ls X hW hS hl
  subst ho
  unfold s_ar at h
  split at h
  · cases h
  rename_i hi
  have hcell := hW.2.2.2.2 o j hc.1 hc.2.1
  rw [show ac E σ o j = (n, .inl (m_ar σ o j)) by simp [ac, hc.2.2], hc.2.2] at hcell
  have hB : e_B E ≤ e_a E o (j + 1) := hW.1.2 o (j + 1) ⟨hc.1, hc.2.1⟩
  refine W.bast X.1 X.2.1 hcell ((hW.2.1.1.2 0 _ rfl).1 n (fun q => .int (m_ar σ o j q))) (fun q => by cases q) (by show ¬ (i < 0 ∨ (arrV _ _ _).slots.size ≤ _); rw [arrV_size]; exact hi) rfl rfl hd fun H1 e1 z oq => ?_
  refine kk _ h p e s m args below meth c H1 _ ls X ⟨hW.1, hW.2.1, hW.2.2.1.put oq hB, hW.2.2.2.arrAt hW.1 hc.1 hc.2.1 ?_ oq fv_af (fun _ _ => ac_af)⟩ (hS.put z oq hB) hl
  rw [e1, show ac E (w_ar σ o j i.toNatClampNeg v.toInt8.toInt32) o j = _ from ac_afs hc.2.2 (Or.inl rfl), hc.2.2, vp_cell_i, vp_cell_i, arrV_store, narrow_byte, updV_i]
theorem J_last {ci o j n : Nat} {i : Int32} {v : Int64} {K : Mm → Option α} (hd : decode y.2.1 pc = .ok (.lastore, 1)) (ho : KD o = ci) (hc : ci < 13 ∧ j < nA ci ∧ at_ ci j = (2, n)) (h : s_la σ o j n i v K = some ρ) (kk : ∀ τ, K τ = some ρ → Jd l E y d R τ (pc + 1) L st) : Jd l E y d R σ pc L (.long v :: .int i :: .ref (e_a E o (j + 1)) :: st) := by
  intro p e s m args below meth c H locs ls X hW hS hl
  subst ho
  unfold s_la at h
  split at h
  · cases h
  rename_i hi
  have hcell := hW.2.2.2.2 o j hc.1 hc.2.1
  rw [show ac E σ o j = (n, .inr (.inl (m_la σ o j))) by simp [ac, hc.2.2], hc.2.2] at hcell
  have hB : e_B E ≤ e_a E o (j + 1) := hW.1.2 o (j + 1) ⟨hc.1, hc.2.1⟩
  refine W.last X.1 X.2.1 hcell ((hW.2.1.1.2 2 _ rfl).1 n (fun q => .long (m_la σ o j q))) (fun q => by cases q) (by show ¬ (i < 0 ∨ (arrV _ _ _).slots.size ≤ _); rw [arrV_size]; exact hi) rfl rfl hd fun H1 e1 z oq => ?_
  refine kk _ h p e s m args below meth c H1 _ ls X ⟨hW.1, hW.2.1, hW.2.2.1.put oq hB, hW.2.2.2.arrAt hW.1 hc.1 hc.2.1 ?_ oq fv_lf (fun _ _ => ac_lf)⟩ (hS.put z oq hB) hl
  rw [e1, show ac E (w_la σ o j i.toNatClampNeg v) o j = _ from ac_lfs hc.2.2, hc.2.2, vp_cell_l, vp_cell_l, arrV_store, updV_l]
/-! CALLS -/
/-- what the tables say of a method that is called on an object; of a static one -/
def MV (y : MI) (ci n : Nat) : Prop := (∃ (T : u_T) (N : Nat), vwCl[ci]? = some (y.1.cls, T, N)) ∧ ci < 13 ∧ Cond.instanceMethod y.1 ∈ GW ∧ Cond.selects y.1.cls y.1 y.1 ∈ GW ∧ Cond.initialized y.1.cls ∈ GW ∧ Cond.code y.1 y.2.1 y.2.2.1 y.2.2.2 ∈ GW ∧ (y.1.cls ≠ "java/lang/invoke/MethodHandle" ∧ y.1.cls ≠ "java/lang/invoke/VarHandle") ∧ (parseMethodDescriptor y.1.desc).map (fun d => d.parameters.length) = some n ∧ y.2.2.1 ≤ 20
def MS (y : MI) (n : Nat) : Prop := Cond.static y.1 ∈ GW ∧ Cond.initialized y.1.cls ∈ GW ∧ Cond.code y.1 y.2.1 y.2.2.1 y.2.2.2 ∈ GW ∧ (y.1.cls ≠ "java/lang/invoke/MethodHandle" ∧ y.1.cls ≠ "java/lang/invoke/VarHandle") ∧ (parseMethodDescriptor y.1.desc).map (fun d => d.parameters.length) = some n ∧ y.2.2.1 ≤ 20
theorem GW_good {s : State} {args : Array Value} {z : MI} (h : ∀ w ∈ GW, w.before args s = true) (hz : Cond.code z.1 z.2.1 z.2.2.1 z.2.2.2 ∈ GW) : ∀ w ∈ wsM z, ∀ (a' : Array Value) (U : State), s.WarmedH U.vm → w.before a' U = true := by
  refine pay_in h fun w hw => ?_
  have hm : w ∈ GW := by
    rcases List.mem_cons.mp hw with rfl | hw
    · exact hz
    · exact hw
  exact ⟨hm, good_of_word (List.mem_filter.mp hm).2⟩
theorem Ct.blind {E : EV} {σ : Mm} {As : List Value} : FrameBlind (fun v U => v = As.toArray ∧ WO E σ U U.heap) := fun _ U _ _ h => ⟨h.1, h.2.1, TB.same (s := U) rfl h.2.2.1, SH.moved (s := U) (Vm.Alike.refl _) h.2.2.2.1, h.2.2.2.2⟩
/-- behind a call -/
theorem J_run {p : Program} {e : Env} {s : State} {m : MethodId} {args : Array Value} {below : List Frame} {meth : Method} {c : Code} {H : Heap} {locs : List Loc} {ls : Array Slot} {st0 rest : List Value} {R1 : Option Value × Mm} (X : FX p s m args meth c y) (hW : WO E σ s H) (hS : va_S (e_A E) s.heap H locs) (hl : lv_has ls y.2.2.1 L) (hr : va_Run p l e (rmH d) s m args below meth c H locs 0 0 0 0 (F0 m pc ls st0) rest (fun st oc t => oc = .returned R1.1 ∧ WO E R1.2 t t.heap ∧ va_F (e_A E) st t) (e_A E))
    (kk : Jd l E y d R R1.2 (pc + 3) L (R1.1.toList ++ rest)) : W p l e (rmH d) s m args below meth c H locs 0 0 (MQ below (fun _ st oc t => oc = .returned R.1 ∧ WO E R.2 t t.heap ∧ va_F (e_A E) st t) args s 0 0 (e_A E)) (F0 m pc ls st0) := by
  intro T hT Z
  obtain ⟨v, st₀, t, T', L2, h0, Z', hL, e1, e2, ⟨hv, hw, hz, hk⟩, step⟩ := hr T hT Z
  cases hv
  rw [h0] at hz hk
  have hwm : s.WarmedH T'.vm := Z'.warmed
  have hal : T'.vm.Alike s.vm := hwm.alike.symm
  have hW' : WO E R1.2 s T'.heap := by
    rw [e1]
    exact ⟨hw.1, hW.2.1, SH.moved (s := t) (U := s) (by rw [← e2]; exact hal) hw.2.2.1, hw.2.2.2⟩
  have hS' : va_S (e_A E) s.heap T'.heap (locs ++ L2) := ⟨Nat.le_trans hS.1 (by rw [e1]; exact hz), fun q h1 h2 => by rw [e1, hk q (Nat.lt_of_lt_of_le h1 hS.1) h2]; exact hS.2.1 q h1 h2, fun q hq => by
    rcases List.mem_append.mp hq with h | h
    · exact hS.2.2 q h
    · exact hL q h⟩
  obtain ⟨t2, a1, b1⟩ := kk p e s m args below meth c T'.heap (locs ++ L2) ls X hW' hS' hl T' rfl Z'
  exact ⟨t2, step t2 a1, b1⟩
theorem room_ok {d d' n : Nat} (h : d' + 1 ≤ d) (hn : n ≤ 20) : (rmH d').frames + 1 ≤ (rmH d).frames ∧ 8 + (n + 11) + (rmH d').locals ≤ (rmH d).locals := by
  simp only [rmH]
  omega
theorem J_callV {z : MI} {d' ci idx o n : Nat} {As rest : List Value} {R1 : Option Value × Mm} (hd : decode y.2.1 pc = .ok (.invokevirtual idx, 3)) (hl : Cond.methodLink y.1.cls idx z.1 ∈ GW) (hz : MV z ci n) (ho : KD o = ci) (hn : As.length = n) (hdd : d' + 1 ≤ d) (hst : st = As.reverse ++ .ref (e_a E o 0) :: rest) (hr : (rest.map fun v => v.category).sum ≤ 8) (hC : Ct l E z d' (.ref (e_a E o 0) :: As) σ R1)
    (kk : Jd l E y d R R1.2 (pc + 3) L (R1.1.toList ++ rest)) : Jd l E y d R σ pc L st := by
  intro p e s m args below meth c H locs ls X hW hS hls
  obtain ⟨⟨T, N, hc⟩, h13, hi, hse, hini, hcode, hy, hdesc, hmx⟩ := hz
  subst ho
  have hts := X.2.2.2.2.2.1
  obtain ⟨cell, q1, q2, q3, -⟩ := hW.2.2.2.1 o h13
  refine J_run X hW hS hls (va_runV (C := z.1.cls) (As := As) (rest := rest) (b := e_a E o 0) (Ts := GW) ⟨X.1, X.2.1, X.2.2.1, X.2.2.2.2.1, hts⟩ hC ⟨⟨rfl, rfl, (room_ok hdd hmx).1, (room_ok hdd hmx).2, GW_good hts hcode, List.mem_cons_self, hts _ hcode, hts _ hini, hy, fun sig h => ?_, hts _ hl⟩, hts _ hi, hts _ hse⟩ ⟨Ct.blind, ⟨cell, q1, by rw [q3]; rfl, by rw [q2]; exact (hW.2.1.1.1 _ _ hc).2.1⟩, fun U hU hw => ⟨rfl, hW.warm hw hU⟩⟩ rfl hn hls.1 hst (lv_room hr) hd ⟨Nat.zero_le _, Nat.zero_le _⟩) kk
  rw [h] at hdesc
  exact (Option.some.inj hdesc).symm
theorem J_callS {z : MI} {d' idx n : Nat} {As rest : List Value} {R1 : Option Value × Mm} (hd : decode y.2.1 pc = .ok (.invokestatic idx, 3)) (hl : Cond.methodLink y.1.cls idx z.1 ∈ GW) (hz : MS z n) (hn : As.length = n) (hdd : d' + 1 ≤ d) (hst : st = As.reverse ++ rest) (hr : (rest.map fun v => v.category).sum ≤ 8) (hC : Ct l E z d' As σ R1)
    (kk : Jd l E y d R R1.2 (pc + 3) L (R1.1.toList ++ rest)) : Jd l E y d R σ pc L st := by
  intro p e s m args below meth c H locs ls X hW hS hls
  obtain ⟨hstat, hini, hcode, hy, hdesc, hmx⟩ := hz
  have hts := X.2.2.2.2.2.1
  refine J_run X hW hS hls (va_runS (As := As) (rest := rest) (Ts := GW) ⟨X.1, X.2.1, X.2.2.1, X.2.2.2.2.1, hts⟩ hC ⟨⟨rfl, rfl, (room_ok hdd hmx).1, (room_ok hdd hmx).2, GW_good hts hcode, List.mem_cons_self, hts _ hcode, hts _ hini, hy, fun sig h => ?_, hts _ hl⟩, hts _ hstat⟩ ⟨Ct.blind, fun U hU hw => ⟨rfl, hW.warm hw hU⟩⟩ rfl hn hls.1 hst (lv_room hr) hd ⟨Nat.zero_le _, Nat.zero_le _⟩) kk
  rw [h] at hdesc
  exact (Option.some.inj hdesc).symm
theorem J_callN {z : MI} {d' idx n : Nat} {host : String} {As rest : List Value} {R1 : Option Value × Mm} (hd : decode y.2.1 pc = .ok (.invokestatic idx, 3)) (hl : (y.1.cls, idx, z.1, host) ∈ nwL) (hz : MS z n) (hn : As.length = n) (hdd : d' + 1 ≤ d) (hst : st = As.reverse ++ rest) (hr : (rest.map fun v => v.category).sum ≤ 8) (hC : Ct l E z d' As σ R1)
    (kk : Jd l E y d R R1.2 (pc + 3) L (R1.1.toList ++ rest)) : Jd l E y d R σ pc L st := by
  intro p e s m args below meth c H locs ls X hW hS hls
  obtain ⟨hstat, hini, hcode, hy, hdesc, hmx⟩ := hz
  have hts := X.2.2.2.2.2.1
  refine J_run X hW hS hls (va_runSN (As := As) (rest := rest) (Ts := GW) (host := host) ⟨X.1, X.2.1, X.2.2.1, X.2.2.2.2.1, hts⟩ hC ⟨⟨⟨rfl, rfl, (room_ok hdd hmx).1, (room_ok hdd hmx).2, GW_good hts hcode, List.mem_cons_self⟩, hts _ hcode, hts _ hini, hy, fun sig h => ?_, va_Nw.use rfl (hW.2.1.2.1 _ hl)⟩, hts _ hstat, trivial⟩ ⟨Ct.blind, fun U hU hw => ⟨rfl, hW.warm hw hU⟩⟩ rfl hn hls.1 hst (lv_room hr) hd ⟨Nat.zero_le _, Nat.zero_le _⟩) kk
  rw [h] at hdesc
  exact (Option.some.inj hdesc).symm
end JM
