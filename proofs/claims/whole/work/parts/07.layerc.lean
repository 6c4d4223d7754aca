section JC
variable {l : Launch} {E : EV} {y : MI} {d : Nat} {R : Option Value × Mm} {σ : Mm} {pc : Nat} {L L' : List (Nat × Value)} {st : List Value} {α : Type} {ρ : α}
/-- fewer locals -/
theorem J_sub (ks : List Nat) (h : lv_pick L ks = L') (k : Jd l E y d R σ pc L' st) : Jd l E y d R σ pc L st :=
  fun p e s m args below meth c H locs ls X hW hS hl => k p e s m args below meth c H locs ls X hW hS (lv_sub hl ks h)
/-- calls by what they answer -/
theorem J_cVi {z : MI} {d' ci idx o n : Nat} {As rest : List Value} {x : Int32} {τ : Mm} (hC : Ct l E z d' (.ref (e_a E o 0) :: As) σ (some (.int x), τ)) (hd : decode y.2.1 pc = .ok (.invokevirtual idx, 3)) (hl : Cond.methodLink y.1.cls idx z.1 ∈ GW) (hz : MV z ci n) (ho : KD o = ci) (hn : As.length = n) (hdd : d' + 1 ≤ d) (hst : st = As.reverse ++ .ref (e_a E o 0) :: rest) (hr : (rest.map fun v => v.category).sum ≤ 8) (kk : Jd l E y d R τ (pc + 3) L (.int x :: rest)) : Jd l E y d R σ pc L st := J_callV hd hl hz ho hn hdd hst hr hC kk
theorem J_cVl {z : MI} {d' ci idx o n : Nat} {As rest : List Value} {x : Int64} {τ : Mm} (hC : Ct l E z d' (.ref (e_a E o 0) :: As) σ (some (.long x), τ)) (hd : decode y.2.1 pc = .ok (.invokevirtual idx, 3)) (hl : Cond.methodLink y.1.cls idx z.1 ∈ GW) (hz : MV z ci n) (ho : KD o = ci) (hn : As.length = n) (hdd : d' + 1 ≤ d) (hst : st = As.reverse ++ .ref (e_a E o 0) :: rest) (hr : (rest.map fun v => v.category).sum ≤ 8) (kk : Jd l E y d R τ (pc + 3) L (.long x :: rest)) : Jd l E y d R σ pc L st := J_callV hd hl hz ho hn hdd hst hr hC kk
theorem J_cVv {z : MI} {d' ci idx o n : Nat} {As rest : List Value} {τ : Mm} (hC : Ct l E z d' (.ref (e_a E o 0) :: As) σ (none, τ)) (hd : decode y.2.1 pc = .ok (.invokevirtual idx, 3)) (hl : Cond.methodLink y.1.cls idx z.1 ∈ GW) (hz : MV z ci n) (ho : KD o = ci) (hn : As.length = n) (hdd : d' + 1 ≤ d) (hst : st = As.reverse ++ .ref (e_a E o 0) :: rest) (hr : (rest.map fun v => v.category).sum ≤ 8) (kk : Jd l E y d R τ (pc + 3) L rest) : Jd l E y d R σ pc L st := J_callV hd hl hz ho hn hdd hst hr hC kk
theorem J_cSi {z : MI} {d' idx n : Nat} {As rest : List Value} {x : Int32} {τ : Mm} (hC : Ct l E z d' As σ (some (.int x), τ)) (hd : decode y.2.1 pc = .ok (.invokestatic idx, 3)) (hl : Cond.methodLink y.1.cls idx z.1 ∈ GW) (hz : MS z n) (hn : As.length = n) (hdd : d' + 1 ≤ d) (hst : st = As.reverse ++ rest) (hr : (rest.map fun v => v.category).sum ≤ 8) (kk : Jd l E y d R τ (pc + 3) L (.int x :: rest)) : Jd l E y d R σ pc L st := J_callS hd hl hz hn hdd hst hr hC kk
theorem J_cSl {z : MI} {d' idx n : Nat} {As rest : List Value} {x : Int64} {τ : Mm} (hC : Ct l E z d' As σ (some (.long x), τ)) (hd : decode y.2.1 pc = .ok (.invokestatic idx, 3)) (hl : Cond.methodLink y.1.cls idx z.1 ∈ GW) (hz : MS z n) (hn : As.length = n) (hdd : d' + 1 ≤ d) (hst : st = As.reverse ++ rest) (hr : (rest.map fun v => v.category).sum ≤ 8) (kk : Jd l E y d R τ (pc + 3) L (.long x :: rest)) : Jd l E y d R σ pc L st := J_callS hd hl hz hn hdd hst hr hC kk
theorem J_cSv {z : MI} {d' idx n : Nat} {As rest : List Value} {τ : Mm} (hC : Ct l E z d' As σ (none, τ)) (hd : decode y.2.1 pc = .ok (.invokestatic idx, 3)) (hl : Cond.methodLink y.1.cls idx z.1 ∈ GW) (hz : MS z n) (hn : As.length = n) (hdd : d' + 1 ≤ d) (hst : st = As.reverse ++ rest) (hr : (rest.map fun v => v.category).sum ≤ 8) (kk : Jd l E y d R τ (pc + 3) L rest) : Jd l E y d R σ pc L st := J_callS hd hl hz hn hdd hst hr hC kk
theorem J_cNi {z : MI} {d' idx n : Nat} {host : String} {As rest : List Value} {x : Int32} {τ : Mm} (hC : Ct l E z d' As σ (some (.int x), τ)) (hd : decode y.2.1 pc = .ok (.invokestatic idx, 3)) (hl : (y.1.cls, idx, z.1, host) ∈ nwL) (hz : MS z n) (hn : As.length = n) (hdd : d' + 1 ≤ d) (hst : st = As.reverse ++ rest) (hr : (rest.map fun v => v.category).sum ≤ 8) (kk : Jd l E y d R τ (pc + 3) L (.int x :: rest)) : Jd l E y d R σ pc L st := J_callN hd hl hz hn hdd hst hr hC kk
/-- what a call gives -/
def c_I (r : Option (Int32 × Mm)) (K : Int32 → Mm → Option α) : Option α := match r with
  | some q => K q.1 q.2
  | none => none
def c_L (r : Option (Int64 × Mm)) (K : Int64 → Mm → Option α) : Option α := match r with
  | some q => K q.1 q.2
  | none => none
def c_V (r : Option Mm) (K : Mm → Option α) : Option α := match r with
  | some q => K q
  | none => none
theorem cI_t {r : Option (Int32 × Mm)} {K : Int32 → Mm → Option α} (h : c_I r K = some ρ) : ∃ (x : Int32) (τ : Mm), r = some (x, τ) ∧ K x τ = some ρ := by
  cases r with
  | none => cases h
  | some q => exact ⟨q.1, q.2, rfl, h⟩
theorem cL_t {r : Option (Int64 × Mm)} {K : Int64 → Mm → Option α} (h : c_L r K = some ρ) : ∃ (x : Int64) (τ : Mm), r = some (x, τ) ∧ K x τ = some ρ := by
  cases r with
  | none => cases h
  | some q => exact ⟨q.1, q.2, rfl, h⟩
theorem cV_t {r : Option Mm} {K : Mm → Option α} (h : c_V r K = some ρ) : ∃ τ : Mm, r = some τ ∧ K τ = some ρ := by
  cases r with
  | none => cases h
  | some q => exact ⟨q, rfl, h⟩
/-- an answer of a boolean method -/
def b_z (x : Int32) (σ : Mm) : Option (Int32 × Mm) := if x = 0 ∨ x = 1 then some (x, σ) else none
theorem bz_t {x : Int32} {σ : Mm} {q : Int32 × Mm} (h : b_z x σ = some q) : narrow .boolean (.int x) = .int x ∧ (x, σ) = q := by
  unfold b_z at h
  split at h
  · rename_i hx
    refine ⟨?_, Option.some.inj h⟩
    rcases hx with rfl | rfl <;> rfl
  · cases h
/-- a divisor -/
def n_z (x : Int32) (K : Option α) : Option α := if x = 0 then none else K
def n_zl (x : Int64) (K : Option α) : Option α := if x = 0 then none else K
theorem nz_t {x : Int32} {K : Option α} (h : n_z x K = some ρ) : ¬ x = 0 ∧ K = some ρ := by
  unfold n_z at h
  split at h
  · cases h
  · exact ⟨by assumption, h⟩
theorem nzl_t {x : Int64} {K : Option α} (h : n_zl x K = some ρ) : ¬ x = 0 ∧ K = some ρ := by
  unfold n_zl at h
  split at h
  · cases h
  · exact ⟨by assumption, h⟩
/-! ROWS copied -/
def y_ac (sp dp n : Int32) (n0 n1 : Nat) (K : Option α) : Option α := if sp < 0 ∨ dp < 0 ∨ n < 0 ∨ n0 < sp.toNatClampNeg + n.toNatClampNeg ∨ n1 < dp.toNatClampNeg + n.toNatClampNeg then none else K
def a_ci (σ : Mm) (o j n0 : Nat) (sp : Int32) (o' j' n1 : Nat) (dp n : Int32) (K : Mm → Option α) : Option α := y_ac sp dp n n0 n1 (K (w_af σ o' j' (va_cpy (m_ar σ o j) (m_ar σ o' j') sp.toNatClampNeg dp.toNatClampNeg n.toNatClampNeg)))
def a_cl (σ : Mm) (o j n0 : Nat) (sp : Int32) (o' j' n1 : Nat) (dp n : Int32) (K : Mm → Option α) : Option α := y_ac sp dp n n0 n1 (K (w_lf σ o' j' (va_cpy (m_la σ o j) (m_la σ o' j') sp.toNatClampNeg dp.toNatClampNeg n.toNatClampNeg)))
theorem y_ac_t {sp dp n : Int32} {n0 n1 : Nat} {K : Option α} (h : y_ac sp dp n n0 n1 K = some ρ) : ¬ sp < 0 ∧ ¬ dp < 0 ∧ ¬ n < 0 ∧ sp.toNatClampNeg + n.toNatClampNeg ≤ n0 ∧ dp.toNatClampNeg + n.toNatClampNeg ≤ n1 ∧ K = some ρ := by
  unfold y_ac at h
  split at h
  · cases h
  · rename_i g
    refine ⟨fun q => g (Or.inl q), fun q => g (Or.inr (Or.inl q)), fun q => g (Or.inr (Or.inr (Or.inl q))), Nat.not_lt.mp fun q => g (Or.inr (Or.inr (Or.inr (Or.inl q)))), Nat.not_lt.mp fun q => g (Or.inr (Or.inr (Or.inr (Or.inr q)))), h⟩
theorem y_nn (z : Int32) (hz : ¬ z < 0) : z.toInt = (z.toNatClampNeg : Int) := by
  have hz0 : (0 : Int) ≤ z.toInt := by
    have := Int32.not_lt.mp hz
    simpa using Int32.le_iff_toInt_le.mp this
  show z.toInt = ((z.toInt.toNat : Nat) : Int)
  omega
theorem nfw : nativeFrameWords "java/lang/System" "arraycopy" 5 = 7 := by decide +kernel
def MC (own : String) (idx : Nat) : Prop := Cond.methodLink own idx arraycopyName ∈ GW ∧ Cond.native arraycopyName ∈ GW ∧ Cond.static arraycopyName ∈ GW ∧ Cond.initialized "java/lang/System" ∈ GW
theorem J_cpI {idx ci o j n0 c2 o' j' n1 : Nat} {sp dp n : Int32} {K : Mm → Option α} (hd : decode y.2.1 pc = .ok (.invokestatic idx, 3)) (hM : MC y.1.cls idx) (ho : KD o = ci) (hc : ci < 13 ∧ j < nA ci ∧ at_ ci j = (1, n0)) (ho1 : KD o' = c2) (hc1 : c2 < 13 ∧ j' < nA c2 ∧ at_ c2 j' = (1, n1)) (hdd : 1 ≤ d) (hr : (st.map fun v => v.category).sum ≤ 8) (h : a_ci σ o j n0 sp o' j' n1 dp n K = some ρ) (kk : ∀ τ, K τ = some ρ → Jd l E y d R τ (pc + 3) L st) : Jd l E y d R σ pc L (.int n :: .int dp :: .ref (e_a E o' (j' + 1)) :: .int sp :: .ref (e_a E o (j + 1)) :: st) := by
  intro p e s m args below meth c H locs ls X hW hS hls
  subst ho; subst ho1
  obtain ⟨h1, h2, h3, h4, h5, h⟩ := y_ac_t h
  have hA := hW.2.2.2.2 o j hc.1 hc.2.1
  rw [show ac E σ o j = (n0, .inl (m_ar σ o j)) by simp [ac, hc.2.2], hc.2.2] at hA
  have hA1 := hW.2.2.2.2 o' j' hc1.1 hc1.2.1
  rw [show ac E σ o' j' = (n1, .inl (m_ar σ o' j')) by simp [ac, hc1.2.2], hc1.2.2] at hA1
  have hB : e_B E ≤ e_a E o' (j' + 1) := hW.1.2 o' (j' + 1) ⟨hc1.1, hc1.2.1⟩
  intro T hT Z
  obtain ⟨-, k0, hk0, cm0, hkk0⟩ := (hW.2.1.1.2 1 _ rfl).1 n0 (fun q => .int (m_ar σ o j q))
  obtain ⟨-, k1, hk1, cm1, hkk1⟩ := (hW.2.1.1.2 1 _ rfl).1 n1 (fun q => .int (m_ar σ o' j' q))
  obtain ⟨vm', X', step⟩ := Z.arraycopy X.1 X.2.2.2.2.1 (X.2.2.2.2.2.1 _ hM.1) (X.2.2.2.2.2.1 _ hM.2.1) (X.2.2.2.2.2.1 _ hM.2.2.1) (X.2.2.2.2.2.1 _ hM.2.2.2) (src := e_a E o (j + 1)) (dst := e_a E o' (j' + 1)) (cs := vp_cell (e_c E 1) (n0, .inl (m_ar σ o j))) (cd := vp_cell (e_c E 1) (n1, .inl (m_ar σ o' j'))) (srcPos := sp) (destPos := dp) (n := n) (by rw [hT]; exact hA) (by rw [hT]; exact hA1)
    (fun _ h => by cases h) (fun _ h => by cases h) (fun h => by cases h) (fun h => by cases h) hk0 hk1 hkk0 hkk1 (by simp [refKind]) h1 h2 h3
    (by rw [y_nn sp h1, y_nn n h3]; show ¬ _ > ((arrV _ n0 (fun q => .int (m_ar σ o j q))).slots.size : Int); rw [arrV_size]; omega)
    (by rw [y_nn dp h2, y_nn n h3]; show ¬ _ > ((arrV _ n1 (fun q => .int (m_ar σ o' j' q))).slots.size : Int); rw [arrV_size]; omega)
    (fun vm₁ _ i hi => by
      have e : (vp_cell (e_c E 1) (n0, .inl (m_ar σ o j))).slots.getD (sp.toNatClampNeg + i) .null = .int (m_ar σ o j (sp.toNatClampNeg + i)) := by
        show (arrV _ n0 (fun q => .int (m_ar σ o j q))).slots.getD _ _ = _
        rw [Array.getD_eq_getD_getElem?, arrV_read _ _ (by omega)]
        rfl
      refine ⟨?_, ?_⟩
      · rw [e]
        rfl
      · rw [e]
        exact trivial)
    (g := F0 m pc ls (.int n :: .int dp :: .ref (e_a E o' (j' + 1)) :: .int sp :: .ref (e_a E o (j + 1)) :: st)) rfl (by rw [X.2.2.1]; exact hls.1) (rest := st) rfl (by rw [X.2.1]; exact hd) (by simp only [rmH]; exact hdd) (by have q := nfw; show 2 * 0 + _ + (nativeFrameWords "java/lang/System" "arraycopy" 5 + 11) ≤ 40 * d; omega)
  have e1 : copied (vp_cell (e_c E 1) (n0, .inl (m_ar σ o j))) (vp_cell (e_c E 1) (n1, .inl (m_ar σ o' j'))) sp dp n = vp_cell (e_c E 1) (n1, .inl (va_cpy (m_ar σ o j) (m_ar σ o' j') sp.toNatClampNeg dp.toNatClampNeg n.toNatClampNeg)) := va_copied (fun z => .int z) _ _ _ _ h4
  rw [e1] at X' step
  have hlt : e_a E o' (j' + 1) < H.size := (Array.getElem?_eq_some_iff.mp hA1).1
  have hheap : ((T.setVm vm').setCell (e_a E o' (j' + 1)) (vp_cell (e_c E 1) (n1, .inl (va_cpy (m_ar σ o j) (m_ar σ o' j') sp.toNatClampNeg dp.toNatClampNeg n.toNatClampNeg)))).heap = H.setIfInBounds (e_a E o' (j' + 1)) (vp_cell (e_c E 1) (n1, .inl (va_cpy (m_ar σ o j) (m_ar σ o' j') sp.toNatClampNeg dp.toNatClampNeg n.toNatClampNeg))) := by rw [← hT]; rfl
  have oq : ∀ q : Nat, q ≠ e_a E o' (j' + 1) → (H.setIfInBounds (e_a E o' (j' + 1)) (vp_cell (e_c E 1) (n1, .inl (va_cpy (m_ar σ o j) (m_ar σ o' j') sp.toNatClampNeg dp.toNatClampNeg n.toNatClampNeg))))[q]? = H[q]? := fun q hq => by simp [Array.getElem?_setIfInBounds, Ne.symm hq]
  obtain ⟨t, a1, b1⟩ := kk _ h p e s m args below meth c _ _ ls X ⟨hW.1, hW.2.1, hW.2.2.1.put oq hB, hW.2.2.2.arrAt hW.1 hc1.1 hc1.2.1 (by rw [show ac E (w_af σ o' j' _) o' j' = _ from ac_afs hc1.2.2 (Or.inr rfl), hc1.2.2]; simp [Array.getElem?_setIfInBounds, hlt]) oq fv_af (fun _ _ => ac_af)⟩ ⟨by simp; exact hS.1, fun q g1 g2 => by
      rw [oq q (fun e => g2 (by rw [e]; exact hB))]
      exact hS.2.1 q g1 g2, fun q hq => by
      rcases List.mem_append.mp hq with h | h
      · exact hS.2.2 q h
      · obtain ⟨z, -, hz⟩ := List.mem_map.mp h
        rw [← hz]
        exact hB⟩ hls _ hheap X'
  exact ⟨t, step t a1, b1⟩
theorem J_cpL {idx ci o j n0 c2 o' j' n1 : Nat} {sp dp n : Int32} {K : Mm → Option α} (hd : decode y.2.1 pc = .ok (.invokestatic idx, 3)) (hM : MC y.1.cls idx) (ho : KD o = ci) (hc : ci < 13 ∧ j < nA ci ∧ at_ ci j = (2, n0)) (ho1 : KD o' = c2) (hc1 : c2 < 13 ∧ j' < nA c2 ∧ at_ c2 j' = (2, n1)) (hdd : 1 ≤ d) (hr : (st.map fun v => v.category).sum ≤ 8) (h : a_cl σ o j n0 sp o' j' n1 dp n K = some ρ) (kk : ∀ τ, K τ = some ρ → Jd l E y d R τ (pc + 3) L st) : Jd l E y d R σ pc L (.int n :: .int dp :: .ref (e_a E o' (j' + 1)) :: .int sp :: .ref (e_a E o (j + 1)) :: st) := by
  intro p e s m args below meth c H locs ls X hW hS hls
  subst ho; subst ho1
  obtain ⟨h1, h2, h3, h4, h5, h⟩ := y_ac_t h
  have hA := hW.2.2.2.2 o j hc.1 hc.2.1
  rw [show ac E σ o j = (n0, .inr (.inl (m_la σ o j))) by simp [ac, hc.2.2], hc.2.2] at hA
  have hA1 := hW.2.2.2.2 o' j' hc1.1 hc1.2.1
  rw [show ac E σ o' j' = (n1, .inr (.inl (m_la σ o' j'))) by simp [ac, hc1.2.2], hc1.2.2] at hA1
  have hB : e_B E ≤ e_a E o' (j' + 1) := hW.1.2 o' (j' + 1) ⟨hc1.1, hc1.2.1⟩
  intro T hT Z
  obtain ⟨-, k0, hk0, cm0, hkk0⟩ := (hW.2.1.1.2 2 _ rfl).1 n0 (fun q => .long (m_la σ o j q))
  obtain ⟨-, k1, hk1, cm1, hkk1⟩ := (hW.2.1.1.2 2 _ rfl).1 n1 (fun q => .long (m_la σ o' j' q))
  obtain ⟨vm', X', step⟩ := Z.arraycopy X.1 X.2.2.2.2.1 (X.2.2.2.2.2.1 _ hM.1) (X.2.2.2.2.2.1 _ hM.2.1) (X.2.2.2.2.2.1 _ hM.2.2.1) (X.2.2.2.2.2.1 _ hM.2.2.2) (src := e_a E o (j + 1)) (dst := e_a E o' (j' + 1)) (cs := vp_cell (e_c E 2) (n0, .inr (.inl (m_la σ o j)))) (cd := vp_cell (e_c E 2) (n1, .inr (.inl (m_la σ o' j')))) (srcPos := sp) (destPos := dp) (n := n) (by rw [hT]; exact hA) (by rw [hT]; exact hA1)
    (fun _ h => by cases h) (fun _ h => by cases h) (fun h => by cases h) (fun h => by cases h) hk0 hk1 hkk0 hkk1 (by simp [refKind]) h1 h2 h3
    (by rw [y_nn sp h1, y_nn n h3]; show ¬ _ > ((arrV _ n0 (fun q => .long (m_la σ o j q))).slots.size : Int); rw [arrV_size]; omega)
    (by rw [y_nn dp h2, y_nn n h3]; show ¬ _ > ((arrV _ n1 (fun q => .long (m_la σ o' j' q))).slots.size : Int); rw [arrV_size]; omega)
    (fun vm₁ _ i hi => by
      have e : (vp_cell (e_c E 2) (n0, .inr (.inl (m_la σ o j)))).slots.getD (sp.toNatClampNeg + i) .null = .long (m_la σ o j (sp.toNatClampNeg + i)) := by
        show (arrV _ n0 (fun q => .long (m_la σ o j q))).slots.getD _ _ = _
        rw [Array.getD_eq_getD_getElem?, arrV_read _ _ (by omega)]
        rfl
      refine ⟨?_, ?_⟩
      · rw [e]
        rfl
      · rw [e]
        exact trivial)
    (g := F0 m pc ls (.int n :: .int dp :: .ref (e_a E o' (j' + 1)) :: .int sp :: .ref (e_a E o (j + 1)) :: st)) rfl (by rw [X.2.2.1]; exact hls.1) (rest := st) rfl (by rw [X.2.1]; exact hd) (by simp only [rmH]; exact hdd) (by have q := nfw; show 2 * 0 + _ + (nativeFrameWords "java/lang/System" "arraycopy" 5 + 11) ≤ 40 * d; omega)
  have e1 : copied (vp_cell (e_c E 2) (n0, .inr (.inl (m_la σ o j)))) (vp_cell (e_c E 2) (n1, .inr (.inl (m_la σ o' j')))) sp dp n = vp_cell (e_c E 2) (n1, .inr (.inl (va_cpy (m_la σ o j) (m_la σ o' j') sp.toNatClampNeg dp.toNatClampNeg n.toNatClampNeg))) := va_copied (fun z => .long z) _ _ _ _ h4
  rw [e1] at X' step
  have hlt : e_a E o' (j' + 1) < H.size := (Array.getElem?_eq_some_iff.mp hA1).1
  have hheap : ((T.setVm vm').setCell (e_a E o' (j' + 1)) (vp_cell (e_c E 2) (n1, .inr (.inl (va_cpy (m_la σ o j) (m_la σ o' j') sp.toNatClampNeg dp.toNatClampNeg n.toNatClampNeg))))).heap = H.setIfInBounds (e_a E o' (j' + 1)) (vp_cell (e_c E 2) (n1, .inr (.inl (va_cpy (m_la σ o j) (m_la σ o' j') sp.toNatClampNeg dp.toNatClampNeg n.toNatClampNeg)))) := by rw [← hT]; rfl
  have oq : ∀ q : Nat, q ≠ e_a E o' (j' + 1) → (H.setIfInBounds (e_a E o' (j' + 1)) (vp_cell (e_c E 2) (n1, .inr (.inl (va_cpy (m_la σ o j) (m_la σ o' j') sp.toNatClampNeg dp.toNatClampNeg n.toNatClampNeg)))))[q]? = H[q]? := fun q hq => by simp [Array.getElem?_setIfInBounds, Ne.symm hq]
  obtain ⟨t, a1, b1⟩ := kk _ h p e s m args below meth c _ _ ls X ⟨hW.1, hW.2.1, hW.2.2.1.put oq hB, hW.2.2.2.arrAt hW.1 hc1.1 hc1.2.1 (by rw [show ac E (w_lf σ o' j' _) o' j' = _ from ac_lfs hc1.2.2, hc1.2.2]; simp [Array.getElem?_setIfInBounds, hlt]) oq fv_lf (fun _ _ => ac_lf)⟩ ⟨by simp; exact hS.1, fun q g1 g2 => by
      rw [oq q (fun e => g2 (by rw [e]; exact hB))]
      exact hS.2.1 q g1 g2, fun q hq => by
      rcases List.mem_append.mp hq with h | h
      · exact hS.2.2 q h
      · obtain ⟨z, -, hz⟩ := List.mem_map.mp h
        rw [← hz]
        exact hB⟩ hls _ hheap X'
  exact ⟨t, step t a1, b1⟩
/-! what the class's own statics and the words' text hold -/
def g_kw (i : Int32) (K : Int64 → Option α) : Option α := if i < 0 ∨ 23 ≤ i.toNatClampNeg then none else K (kwL.getD i.toNatClampNeg 0)
def g_ky (i : Int32) (K : Int32 → Option α) : Option α := if i < 0 ∨ 119 ≤ i.toNatClampNeg then none else K (kyB.getD i.toNatClampNeg 0)
theorem J_gets {idx : Nat} {C n ds : String} {v : Value} (hd : decode y.2.1 pc = .ok (.getstatic idx, 3)) (hl : Cond.fieldLink y.1.cls idx C n ds ∈ GW) (hz : ∀ (s : State) (H : Heap), SH E s H → va_Z C n ds v (e_A E) s H) (kk : Jd l E y d R σ (pc + 3) L (v :: st)) : Jd l E y d R σ pc L st := by
  intro p e s m args below meth c H locs ls X hW hS hls
  obtain ⟨cf, kf, fi, f, a, cell, h1, h2, h3, h4, h5, h6, h7, h8⟩ := hz s H hW.2.2.1
  exact W.gets X.1 X.2.1 X.2.2.2.2.1 (X.2.2.2.2.2.1 _ hl) h1 h2 h3 h4 h5 (fun e => by rw [e] at h6; cases h6) h7 rfl hd (kk p e s m args below meth c H locs ls X hW hS hls)
theorem J_getsq {idx : Nat} {C n ds : String} (hd : decode y.2.1 pc = .ok (.getstatic idx, 3)) (hl : Cond.fieldLink y.1.cls idx C n ds ∈ GW) (hz : ∀ (s : State) (H : Heap), SH E s H → va_Zq C n ds (e_A E) s H) (kk : ∀ v : Value, v.category = 1 → Jd l E y d R σ (pc + 3) L (v :: st)) : Jd l E y d R σ pc L st := by
  intro p e s m args below meth c H locs ls X hW hS hls
  have go : ∀ v : Value, v.category = 1 → va_Z C n ds v (e_A E) s H → W p l e (rmH d) s m args below meth c H locs 0 0 (MQ below (fun _ st oc t => oc = .returned R.1 ∧ WO E R.2 t t.heap ∧ va_F (e_A E) st t) args s 0 0 (e_A E)) (F0 m pc ls st) := by
    intro v hv hZ
    obtain ⟨cf, kf, fi, f, a, cell, h1, h2, h3, h4, h5, h6, h7, h8⟩ := hZ
    exact W.gets X.1 X.2.1 X.2.2.2.2.1 (X.2.2.2.2.2.1 _ hl) h1 h2 h3 h4 h5 (fun e => by rw [e] at h6; cases h6) h7 rfl hd (kk v hv p e s m args below meth c H locs ls X hW hS hls)
  rcases hz s H hW.2.2.1 with h | ⟨t, h⟩
  · exact go .null rfl h
  · exact go (.ref t) rfl h
theorem J_kwlen (hd : decode y.2.1 pc = .ok (.arraylength, 1)) (kk : Jd l E y d R σ (pc + 1) L (.int 23 :: st)) : Jd l E y d R σ pc L (.ref (e_w E) :: st) := by
  intro p e s m args below meth c H locs ls X hW hS hls
  obtain ⟨cell, h1, h2, h3, h4, h5, h6, h7⟩ := hW.2.2.1.2.1
  exact W.alen X.1 X.2.1 h1 h2 (h5.trans (by decide)) rfl rfl hd (kk p e s m args below meth c H locs ls X hW hS hls)
theorem J_kwald {i : Int32} {K : Int64 → Option α} (hd : decode y.2.1 pc = .ok (.laload, 1)) (h : g_kw i K = some ρ) (kk : ∀ x, K x = some ρ → Jd l E y d R σ (pc + 1) L (.long x :: st)) : Jd l E y d R σ pc L (.int i :: .ref (e_w E) :: st) := by
  intro p e s m args below meth c H locs ls X hW hS hls
  unfold g_kw at h
  split at h
  · cases h
  rename_i hi
  obtain ⟨cell, h1, h2, h3, h4, h5, h6, h7⟩ := hW.2.2.1.2.1
  have hlt : i.toNatClampNeg < 23 := Nat.not_le.mp fun q => hi (Or.inr q)
  exact W.lald (v := .long (kwL.getD i.toNatClampNeg 0)) X.1 X.2.1 h1 h2 h3 (fun q => q.elim (fun z => hi (Or.inl z)) (fun z => absurd (Nat.lt_of_lt_of_le hlt h4) (Nat.not_lt.mpr z))) (h6 _ hlt) rfl rfl hd (kk _ h p e s m args below meth c H locs ls X hW hS hls)
theorem J_kylen (hd : decode y.2.1 pc = .ok (.arraylength, 1)) (kk : Jd l E y d R σ (pc + 1) L (.int 119 :: st)) : Jd l E y d R σ pc L (.ref (e_v E) :: st) := by
  intro p e s m args below meth c H locs ls X hW hS hls
  obtain ⟨cell, h1, h2, h3, h4, h5, h6, h7⟩ := hW.2.2.1.2.2.2.2.2.2.1
  exact W.alen X.1 X.2.1 h1 h2 (h5.trans (by decide)) rfl rfl hd (kk p e s m args below meth c H locs ls X hW hS hls)
theorem J_kyald {i : Int32} (hd : decode y.2.1 pc = .ok (.baload, 1)) (hi : ¬ (i < 0 ∨ 119 ≤ i.toNatClampNeg)) (kk : Jd l E y d R σ (pc + 1) L (.int (kyB.getD i.toNatClampNeg 0) :: st)) : Jd l E y d R σ pc L (.int i :: .ref (e_v E) :: st) := by
  intro p e s m args below meth c H locs ls X hW hS hls
  obtain ⟨cell, h1, h2, h3, h4, h5, h6, h7⟩ := hW.2.2.1.2.2.2.2.2.2.1
  have hlt : i.toNatClampNeg < 119 := Nat.not_le.mp fun q => hi (Or.inr q)
  exact W.bald (v := .int (kyB.getD i.toNatClampNeg 0)) X.1 X.2.1 h1 h2 h3 (fun q => q.elim (fun z => hi (Or.inl z)) (fun z => absurd (Nat.lt_of_lt_of_le hlt h4) (Nat.not_lt.mpr z))) (h6 _ hlt) rfl rfl hd (kk p e s m args below meth c H locs ls X hW hS hls)
theorem J_ldcS {idx : Nat} (hd : decode y.2.1 pc = .ok (.ldc idx, 2)) (hy : y.1.cls = RX12) (hi : idx = 180) (kk : Jd l E y d R σ (pc + 2) L (.ref (e_s E) :: st)) : Jd l E y d R σ pc L st := by
  intro p e s m args below meth c H locs ls X hW hS hls
  subst hi
  exact va_ldcS X.1 X.2.1 X.2.2.2.2.1 (hy ▸ hW.2.1.2.2) hd (kk p e s m args below meth c H locs ls X hW hS hls)
theorem J_getK {idx : Nat} {n ds : String} {v : Value} (hd : decode y.2.1 pc = .ok (.getfield idx, 3)) (hl : Cond.fieldLink y.1.cls idx RJ0 n ds ∈ GW) (hz : ∀ (s : State) (H : Heap), SH E s H → va_OF RJ0 n ds v (e_s E) (e_A E) s H) (kk : Jd l E y d R σ (pc + 3) L (v :: st)) : Jd l E y d R σ pc L (.ref (e_s E) :: st) := by
  intro p e s m args below meth c H locs ls X hW hS hls
  obtain ⟨cf, k, fi, f, cell, h1, h2, h3, h4, h5, h6⟩ := hz s H hW.2.2.1
  exact W.getf X.1 X.2.1 X.2.2.2.2.1 (X.2.2.2.2.2.1 _ hl) h1 h2 h3 h4 (v := v) h5 rfl rfl hd (kk p e s m args below meth c H locs ls X hW hS hls)
/-- a call on the words' text -/
def MT (y : MI) (n : Nat) : Prop := y.1.cls = RJ0 ∧ Cond.instanceMethod y.1 ∈ GW ∧ Cond.selects y.1.cls y.1 y.1 ∈ GW ∧ Cond.initialized y.1.cls ∈ GW ∧ Cond.code y.1 y.2.1 y.2.2.1 y.2.2.2 ∈ GW ∧ (y.1.cls ≠ "java/lang/invoke/MethodHandle" ∧ y.1.cls ≠ "java/lang/invoke/VarHandle") ∧ (parseMethodDescriptor y.1.desc).map (fun d => d.parameters.length) = some n ∧ y.2.2.1 ≤ 20
theorem J_cTi {z : MI} {d' idx n : Nat} {As rest : List Value} {x : Int32} {τ : Mm} (hC : Ct l E z d' (.ref (e_s E) :: As) σ (some (.int x), τ)) (hd : decode y.2.1 pc = .ok (.invokevirtual idx, 3)) (hl : Cond.methodLink y.1.cls idx z.1 ∈ GW) (hz : MT z n) (hn : As.length = n) (hdd : d' + 1 ≤ d) (hst : st = As.reverse ++ .ref (e_s E) :: rest) (hr : (rest.map fun v => v.category).sum ≤ 8)
    (kk : Jd l E y d R τ (pc + 3) L (.int x :: rest)) : Jd l E y d R σ pc L st := by
  intro p e s m args below meth c H locs ls X hW hS hls
  obtain ⟨hcls, hi, hse, hini, hcode, hy, hdesc, hmx⟩ := hz
  have hts := X.2.2.2.2.2.1
  obtain ⟨cell, q1, q2, q3, -⟩ := hW.2.2.1.2.2.2.1
  refine J_run X hW hS hls (va_runV (C := z.1.cls) (As := As) (rest := rest) (b := e_s E) (Ts := GW) ⟨X.1, X.2.1, X.2.2.1, X.2.2.2.2.1, hts⟩ hC ⟨⟨rfl, rfl, (room_ok hdd hmx).1, (room_ok hdd hmx).2, GW_good hts hcode, List.mem_cons_self, hts _ hcode, hts _ hini, hy, fun sig h => ?_, hts _ hl⟩, hts _ hi, hts _ hse⟩ ⟨Ct.blind, ⟨cell, q1, q2, by rw [hcls]; exact q3⟩, fun U hU hw => ⟨rfl, hW.warm hw hU⟩⟩ rfl hn hls.1 hst (lv_room hr) hd ⟨Nat.zero_le _, Nat.zero_le _⟩) kk
  rw [h] at hdesc
  exact (Option.some.inj hdesc).symm
end JC
