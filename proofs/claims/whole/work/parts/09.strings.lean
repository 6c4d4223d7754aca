def FU : Nat := 1000000000000
theorem FU_ge : 1000000000 ≤ FU := by decide
theorem ne_i {x c : Int32} {k : Int} (h : ¬ x = c) (hc : c.toInt = k) : x.toInt ≠ k := fun q => h (Int32.toInt_inj.mp (q.trans hc.symm))
section JS
variable {l : Launch} {E : EV} {y : MI} {d : Nat} {R : Option Value × Mm} {σ : Mm} {pc : Nat} {L L' : List (Nat × Value)} {st : List Value} {α : Type} {ρ : α}
theorem J_tableD {dflt lo hi : Int} {offs : Array Int} {len : Nat} {x : Int32} (t : Nat) (hd : decode y.2.1 pc = .ok (.tableswitch dflt lo hi offs, len)) (ht : (pc : Int) + dflt = (t : Int)) (hx : ¬ x.toInt < lo → ¬ hi < x.toInt → offs[(x.toInt - lo).toNat]? = some dflt) (k : Jd l E y d R σ t L st) : Jd l E y d R σ pc L (.int x :: st) := by
  by_cases h1 : x.toInt < lo
  · exact J_tableOut t hd (Or.inl h1) ht k
  · by_cases h2 : hi < x.toInt
    · exact J_tableOut t hd (Or.inr h2) ht k
    · exact J_tableIn t hd h1 h2 (hx h1 h2) ht k
theorem J_aaldK {ci o j n t c2 : Nat} {C : String} {i : Int32} {K : Nat → Option α} (hd : decode y.2.1 pc = .ok (.aaload, 1)) (ho : KD o = ci) (hc : ci < 13 ∧ j < nA ci ∧ at_ ci j = (t + 3, n)) (ht : (tyl E)[t + 3]? = some (e_c E (t + 3), .object C)) (hk : ∀ a, a < n → KD (ra j a) = c2) (h : g_bl j n i K = some ρ) (kk : ∀ q, KD q = c2 → K q = some ρ → Jd l E y d R σ (pc + 1) L (.ref (e_a E q 0) :: st)) : Jd l E y d R σ pc L (.int i :: .ref (e_a E o (j + 1)) :: st) :=
  J_aald hd ho hc ht h (fun a ha h => kk _ (hk a ha) h)
theorem J_ift {x : Int32} {off : Int} (t : Nat) (hd : decode y.2.1 pc = .ok (.ifCond .eq off, 3)) (ht : (pc : Int) + off = (t : Int)) (hx : ¬ x = 0) (k : Jd l E y d R σ (pc + 3) L st) : Jd l E y d R σ pc L (.int x :: st) :=
  J_if_eq (α := Unit) (A := none) (B := some ()) (ρ := ()) t hd ht (by rw [if_neg hx]) (fun h => by cases h) (fun _ => k)
end JS
/-! the JDK's own: length and charAt of the words' text -/
theorem c_coder (l : Launch) (E : EV) (σ : Mm) : Ct l E mJ0_coder_7d493 0 [.ref (e_s E)] σ (some (.int 0), σ) := by
  refine Ct.of (by decide +kernel) (Nat.le_of_ble_eq_true rfl) ?_
  show Jd l E mJ0_coder_7d493 0 _ σ 0 [(0, .ref (e_s E))] []
  refine J_gets (pc := 0) dJ0_coder_7d493_0 flJ0_38 (fun _ _ q => q.2.2.1) ?_
  refine J_ift (pc := 3) 13 dJ0_coder_7d493_3 (by decide) (by decide) ?_
  refine J_aload_n (pc := 6) 0 dJ0_coder_7d493_6 rfl ?_
  refine J_getK (pc := 7) dJ0_coder_7d493_7 flJ0_15 (fun _ _ q => q.2.2.2.2.1) ?_
  refine J_goto (pc := 10) 14 dJ0_coder_7d493_10 (by decide) ?_
  exact J_iret (pc := 14) dJ0_coder_7d493_14 rfl rfl
theorem c_isLatin1 (l : Launch) (E : EV) (σ : Mm) : Ct l E mJ0_isLatin1_aae02 0 [.ref (e_s E)] σ (some (.int 1), σ) := by
  refine Ct.of (by decide +kernel) (Nat.le_of_ble_eq_true rfl) ?_
  show Jd l E mJ0_isLatin1_aae02 0 _ σ 0 [(0, .ref (e_s E))] []
  refine J_gets (pc := 0) dJ0_isLatin1_aae02_0 flJ0_38 (fun _ _ q => q.2.2.1) ?_
  refine J_ift (pc := 3) 17 dJ0_isLatin1_aae02_3 (by decide) (by decide) ?_
  refine J_aload_n (pc := 6) 0 dJ0_isLatin1_aae02_6 rfl ?_
  refine J_getK (pc := 7) dJ0_isLatin1_aae02_7 flJ0_15 (fun _ _ q => q.2.2.2.2.1) ?_
  refine J_if_ne (α := Unit) (A := some ()) (B := none) (ρ := ()) (pc := 10) 17 dJ0_isLatin1_aae02_10 (by decide) (by rfl) (fun h => by cases h) (fun _ => ?_)
  refine J_iconst (pc := 13) 1 dJ0_isLatin1_aae02_13 (by decide) ?_
  refine J_goto (pc := 14) 18 dJ0_isLatin1_aae02_14 (by decide) ?_
  exact J_iret (pc := 18) dJ0_isLatin1_aae02_18 rfl rfl
theorem c_pre (l : Launch) (E : EV) (i n : Int32) (w : Option Nat) (h0 : ¬ i < 0) (h1 : i < n) (σ : Mm) : Ct l E mJ3_checkIndex_8e157 0 [.int i, .int n, va_rf w] σ (some (.int i), σ) := by
  cases w with
  | none =>
    refine Ct.of (by decide +kernel) (Nat.le_of_ble_eq_true rfl) ?_
    show Jd l E mJ3_checkIndex_8e157 0 _ σ 0 [(0, .int i), (1, .int n), (2, .null)] []
    refine J_iload_n (pc := 0) 0 dJ3_checkIndex_8e157_0 rfl ?_
    refine J_if_lt (α := Unit) (A := none) (B := some ()) (ρ := ()) (pc := 1) 9 dJ3_checkIndex_8e157_1 (by decide) (by rw [if_neg h0]) (fun h => by cases h) (fun _ => ?_)
    refine J_iload_n (pc := 4) 0 dJ3_checkIndex_8e157_4 rfl ?_
    refine J_iload_n (pc := 5) 1 dJ3_checkIndex_8e157_5 rfl ?_
    refine J_icmp_lt (α := Unit) (A := some ()) (B := none) (ρ := ()) (pc := 6) 16 dJ3_checkIndex_8e157_6 (by decide) (by rw [if_pos h1]) (fun _ => ?_) (fun h => by cases h)
    refine J_iload_n (pc := 16) 0 dJ3_checkIndex_8e157_16 rfl ?_
    exact J_iret (pc := 17) dJ3_checkIndex_8e157_17 rfl rfl
  | some a =>
    refine Ct.of (by decide +kernel) (Nat.le_of_ble_eq_true rfl) ?_
    show Jd l E mJ3_checkIndex_8e157 0 _ σ 0 [(0, .int i), (1, .int n), (2, .ref a)] []
    refine J_iload_n (pc := 0) 0 dJ3_checkIndex_8e157_0 rfl ?_
    refine J_if_lt (α := Unit) (A := none) (B := some ()) (ρ := ()) (pc := 1) 9 dJ3_checkIndex_8e157_1 (by decide) (by rw [if_neg h0]) (fun h => by cases h) (fun _ => ?_)
    refine J_iload_n (pc := 4) 0 dJ3_checkIndex_8e157_4 rfl ?_
    refine J_iload_n (pc := 5) 1 dJ3_checkIndex_8e157_5 rfl ?_
    refine J_icmp_lt (α := Unit) (A := some ()) (B := none) (ρ := ()) (pc := 6) 16 dJ3_checkIndex_8e157_6 (by decide) (by rw [if_pos h1]) (fun _ => ?_) (fun h => by cases h)
    refine J_iload_n (pc := 16) 0 dJ3_checkIndex_8e157_16 rfl ?_
    exact J_iret (pc := 17) dJ3_checkIndex_8e157_17 rfl rfl
theorem J_getsw {l : Launch} {E : EV} {y : MI} {d : Nat} {R : Option Value × Mm} {σ : Mm} {pc : Nat} {L : List (Nat × Value)} {st : List Value} {idx : Nat} {C n ds : String} (hd : decode y.2.1 pc = .ok (.getstatic idx, 3)) (hl : Cond.fieldLink y.1.cls idx C n ds ∈ GW) (hz : ∀ (s : State) (H : Heap), SH E s H → va_Zq C n ds (e_A E) s H) (kk : ∀ w : Option Nat, Jd l E y d R σ (pc + 3) L (va_rf w :: st)) : Jd l E y d R σ pc L st := by
  intro p e s m args below meth c H locs ls X hW hS hls
  have go : ∀ w : Option Nat, va_Z C n ds (va_rf w) (e_A E) s H → W p l e (rmH d) s m args below meth c H locs 0 0 (MQ below (fun _ st oc t => oc = .returned R.1 ∧ WO E R.2 t t.heap ∧ va_F (e_A E) st t) args s 0 0 (e_A E)) (F0 m pc ls st) := by
    intro w hZ
    obtain ⟨cf, kf, fi, f, a, cell, h1, h2, h3, h4, h5, h6, h7, h8⟩ := hZ
    exact W.gets X.1 X.2.1 X.2.2.2.2.1 (X.2.2.2.2.2.1 _ hl) h1 h2 h3 h4 h5 (fun e => by rw [e] at h6; cases h6) h7 rfl hd (kk w p e s m args below meth c H locs ls X hW hS hls)
  rcases hz s H hW.2.2.1 with h | ⟨t, h⟩
  · exact go none h
  · exact go (some t) h
theorem c_check (l : Launch) (E : EV) (i n : Int32) (h0 : ¬ i < 0) (h1 : i < n) (σ : Mm) : Ct l E mJ0_checkIndex_df160 1 [.int i, .int n] σ (none, σ) := by
  refine Ct.of (by decide +kernel) (Nat.le_of_ble_eq_true rfl) ?_
  show Jd l E mJ0_checkIndex_df160 1 _ σ 0 [(0, .int i), (1, .int n)] []
  refine J_iload_n (pc := 0) 0 dJ0_checkIndex_df160_0 rfl ?_
  refine J_iload_n (pc := 1) 1 dJ0_checkIndex_df160_1 rfl ?_
  refine J_getsw (pc := 2) dJ0_checkIndex_df160_2 flJ0_1053 (fun _ _ q => q.2.2.2.2.2.2.2) (fun w => ?_)
  refine J_cSi (pc := 5) (c_pre l E i n w h0 h1 σ) dJ0_checkIndex_df160_5 mlJ0_1059 msJ3_checkIndex_8e157 rfl (by decide) rfl (Nat.le_of_ble_eq_true rfl) ?_
  refine J_pop (pc := 8) dJ0_checkIndex_df160_8 rfl ?_
  exact J_vret (pc := 9) dJ0_checkIndex_df160_9 rfl
theorem ky_byte : ∀ k, k < 119 → (((kyB.getD k 0 &&& 255).toUInt32 % 65536).toInt32 = kyB.getD k 0) := by decide +kernel
theorem ky_char : ∀ k, k < 119 → narrow .char (.int (kyB.getD k 0)) = .int (kyB.getD k 0) := by decide +kernel
theorem ky_in {i : Int32} (h : ¬ (i < 0 ∨ 119 ≤ i.toNatClampNeg)) : ¬ i < 0 ∧ i < 119 ∧ i.toNatClampNeg < 119 := by
  have h1 : ¬ i < 0 := fun q => h (Or.inl q)
  have h2 : i.toNatClampNeg < 119 := Nat.not_le.mp fun q => h (Or.inr q)
  refine ⟨h1, ?_, h2⟩
  have e := y_nn i h1
  rw [Int32.lt_iff_toInt_lt, e]
  have : (119 : Int32).toInt = 119 := by decide
  rw [this]
  omega
theorem c_lat (l : Launch) (E : EV) {i : Int32} (h : ¬ (i < 0 ∨ 119 ≤ i.toNatClampNeg)) (σ : Mm) : Ct l E mJ1_charAt_3b067 2 [.ref (e_v E), .int i] σ (some (.int (kyB.getD i.toNatClampNeg 0)), σ) := by
  obtain ⟨h0, h1, h2⟩ := ky_in h
  refine Ct.of (by decide +kernel) (Nat.le_of_ble_eq_true rfl) ?_
  show Jd l E mJ1_charAt_3b067 2 _ σ 0 [(0, .ref (e_v E)), (1, .int i)] []
  refine J_iload_n (pc := 0) 1 dJ1_charAt_3b067_0 rfl ?_
  refine J_aload_n (pc := 1) 0 dJ1_charAt_3b067_1 rfl ?_
  refine J_kylen (pc := 2) dJ1_charAt_3b067_2 ?_
  refine J_cSv (pc := 3) (c_check l E i 119 h0 h1 σ) dJ1_charAt_3b067_3 mlJ1_9 msJ0_checkIndex_df160 rfl (by decide) rfl (Nat.le_of_ble_eq_true rfl) ?_
  refine J_aload_n (pc := 6) 0 dJ1_charAt_3b067_6 rfl ?_
  refine J_iload_n (pc := 7) 1 dJ1_charAt_3b067_7 rfl ?_
  refine J_kyald (pc := 8) dJ1_charAt_3b067_8 h ?_
  refine J_sipush (pc := 9) 255 dJ1_charAt_3b067_9 (by decide) ?_
  refine J_iand (pc := 12) dJ1_charAt_3b067_12 ?_
  refine J_i2c (pc := 13) dJ1_charAt_3b067_13 ?_
  rw [ky_byte _ h2]
  exact J_iret (pc := 14) dJ1_charAt_3b067_14 rfl (ky_char _ h2)
theorem c_charAt (l : Launch) (E : EV) {i : Int32} (h : ¬ (i < 0 ∨ 119 ≤ i.toNatClampNeg)) (σ : Mm) : Ct l E mJ0_charAt_5068e 4 [.ref (e_s E), .int i] σ (some (.int (kyB.getD i.toNatClampNeg 0)), σ) := by
  obtain ⟨h0, h1, h2⟩ := ky_in h
  refine Ct.of (by decide +kernel) (Nat.le_of_ble_eq_true rfl) ?_
  show Jd l E mJ0_charAt_5068e 4 _ σ 0 [(0, .ref (e_s E)), (1, .int i)] []
  refine J_aload_n (pc := 0) 0 dJ0_charAt_5068e_0 rfl ?_
  refine J_cTi (pc := 1) (c_isLatin1 l E σ) dJ0_charAt_5068e_1 mlJ0_492 mtJ0_isLatin1_aae02 rfl (by decide) rfl (Nat.le_of_ble_eq_true rfl) ?_
  refine J_ift (pc := 4) 16 dJ0_charAt_5068e_4 (by decide) (by decide) ?_
  refine J_aload_n (pc := 7) 0 dJ0_charAt_5068e_7 rfl ?_
  refine J_getK (pc := 8) dJ0_charAt_5068e_8 flJ0_9 (fun _ _ q => q.2.2.2.2.2.1) ?_
  refine J_iload_n (pc := 11) 1 dJ0_charAt_5068e_11 rfl ?_
  refine J_cSi (pc := 12) (c_lat l E h σ) dJ0_charAt_5068e_12 mlJ0_495 msJ1_charAt_3b067 rfl (by decide) rfl (Nat.le_of_ble_eq_true rfl) ?_
  exact J_iret (pc := 15) dJ0_charAt_5068e_15 rfl (ky_char _ h2)
theorem c_length (l : Launch) (E : EV) (σ : Mm) : Ct l E mJ0_length_8abf5 1 [.ref (e_s E)] σ (some (.int 119), σ) := by
  refine Ct.of (by decide +kernel) (Nat.le_of_ble_eq_true rfl) ?_
  show Jd l E mJ0_length_8abf5 1 _ σ 0 [(0, .ref (e_s E))] []
  refine J_aload_n (pc := 0) 0 dJ0_length_8abf5_0 rfl ?_
  refine J_getK (pc := 1) dJ0_length_8abf5_1 flJ0_9 (fun _ _ q => q.2.2.2.2.2.1) ?_
  refine J_kylen (pc := 4) dJ0_length_8abf5_4 ?_
  refine J_aload_n (pc := 5) 0 dJ0_length_8abf5_5 rfl ?_
  refine J_cTi (pc := 6) (c_coder l E σ) dJ0_length_8abf5_6 mlJ0_335 mtJ0_coder_7d493 rfl (by decide) rfl (Nat.le_of_ble_eq_true rfl) ?_
  refine J_ishr (pc := 9) dJ0_length_8abf5_9 ?_
  rw [show (119 : Int32) >>> ((0 : Int32) &&& 31) = 119 by decide]
  exact J_iret (pc := 10) dJ0_length_8abf5_10 rfl rfl
section JS2
variable {l : Launch} {E : EV} {y : MI} {d : Nat} {R : Option Value × Mm} {σ : Mm} {pc : Nat} {L L' : List (Nat × Value)} {st rest : List Value} {α : Type} {ρ : α}
theorem J_strlen {idx : Nat} (hd : decode y.2.1 pc = .ok (.invokevirtual idx, 3)) (hl : Cond.methodLink y.1.cls idx yJ0_length_8abf5 ∈ GW) (hdd : 1 + 1 ≤ d) (hst : st = .ref (e_s E) :: rest) (hr : (rest.map fun v => v.category).sum ≤ 8) (kk : Jd l E y d R σ (pc + 3) L (.int 119 :: rest)) : Jd l E y d R σ pc L st :=
  J_cTi (c_length l E σ) hd hl mtJ0_length_8abf5 rfl hdd hst hr kk
theorem J_charAt {idx : Nat} {i : Int32} {K : Int32 → Option α} (hd : decode y.2.1 pc = .ok (.invokevirtual idx, 3)) (hl : Cond.methodLink y.1.cls idx yJ0_charAt_5068e ∈ GW) (hdd : 4 + 1 ≤ d) (hst : st = .int i :: .ref (e_s E) :: rest) (hr : (rest.map fun v => v.category).sum ≤ 8) (h : g_ky i K = some ρ) (kk : ∀ x, K x = some ρ → Jd l E y d R σ (pc + 3) L (.int x :: rest)) : Jd l E y d R σ pc L st := by
  unfold g_ky at h
  split at h
  · cases h
  · rename_i hi
    exact J_cTi (c_charAt l E hi σ) hd hl mtJ0_charAt_5068e rfl hdd hst hr (kk _ h)
end JS2
/-! Math's own -/
def MM (own : String) (idx : Nat) (nm : MethodName) (code : ByteArray) (n : Nat) (ty : FieldType) : Prop := Cond.methodLink own idx nm ∈ GW ∧ Cond.static nm ∈ GW ∧ Cond.initialized "java/lang/Math" ∈ GW ∧ Cond.code nm code n (some ty) ∈ GW
section JS3
variable {l : Launch} {E : EV} {y : MI} {d : Nat} {R : Option Value × Mm} {σ : Mm} {pc : Nat} {L L' : List (Nat × Value)} {rest : List Value}
theorem J_mmin {idx : Nat} {a b : Int32} (hd : decode y.2.1 pc = .ok (.invokestatic idx, 3)) (hM : MM y.1.cls idx Lib.Math.min.name Lib.Math.min.code 2 .int) (hdd : 1 ≤ d) (hr : (rest.map fun v => v.category).sum ≤ 8) (kk : Jd l E y d R σ (pc + 3) L (.int (if b < a then b else a) :: rest)) : Jd l E y d R σ pc L (.int b :: .int a :: rest) := by
  intro p e s m args below meth c H locs ls X hW hS hls
  have ht := X.2.2.2.2.2.1
  exact va_mmin X.1 X.2.1 (X.2.2.1.trans hls.1.symm) X.2.2.2.2.1 (ht _ hM.1) (ht _ hM.2.1) (ht _ hM.2.2.1) (ht _ hM.2.2.2) hdd (by simp only [rmH]; omega) (Nat.zero_le _) (Nat.zero_le _) hd (kk p e s m args below meth c H locs ls X hW hS hls)
theorem J_mmax {idx : Nat} {a b : Int32} (hd : decode y.2.1 pc = .ok (.invokestatic idx, 3)) (hM : MM y.1.cls idx Lib.Math.max.name Lib.Math.max.code 2 .int) (hdd : 1 ≤ d) (hr : (rest.map fun v => v.category).sum ≤ 8) (kk : Jd l E y d R σ (pc + 3) L (.int (if a < b then b else a) :: rest)) : Jd l E y d R σ pc L (.int b :: .int a :: rest) := by
  intro p e s m args below meth c H locs ls X hW hS hls
  have ht := X.2.2.2.2.2.1
  exact va_mmax X.1 X.2.1 (X.2.2.1.trans hls.1.symm) X.2.2.2.2.1 (ht _ hM.1) (ht _ hM.2.1) (ht _ hM.2.2.1) (ht _ hM.2.2.2) hdd (by simp only [rmH]; omega) (Nat.zero_le _) (Nat.zero_le _) hd (kk p e s m args below meth c H locs ls X hW hS hls)
theorem J_mabs {idx : Nat} {a : Int32} (hd : decode y.2.1 pc = .ok (.invokestatic idx, 3)) (hM : MM y.1.cls idx Lib.Math.abs.name Lib.Math.abs.code 1 .int) (hdd : 1 ≤ d) (hr : (rest.map fun v => v.category).sum ≤ 8) (kk : Jd l E y d R σ (pc + 3) L (.int (if 0 ≤ a then a else 0 - a) :: rest)) : Jd l E y d R σ pc L (.int a :: rest) := by
  intro p e s m args below meth c H locs ls X hW hS hls
  have ht := X.2.2.2.2.2.1
  exact va_mabs X.1 X.2.1 (X.2.2.1.trans hls.1.symm) X.2.2.2.2.1 (ht _ hM.1) (ht _ hM.2.1) (ht _ hM.2.2.1) (ht _ hM.2.2.2) hdd (by simp only [rmH]; omega) (Nat.zero_le _) (Nat.zero_le _) hd (kk p e s m args below meth c H locs ls X hW hS hls)
theorem J_mabsl {idx : Nat} {a : Int64} (hd : decode y.2.1 pc = .ok (.invokestatic idx, 3)) (hM : MM y.1.cls idx Lib.MathLoose.abs_long.x Lib.MathLoose.abs_long.code 2 .long) (hdd : 1 ≤ d) (hr : (rest.map fun v => v.category).sum ≤ 8) (kk : Jd l E y d R σ (pc + 3) L (.long (if 0 < a then a else -a) :: rest)) : Jd l E y d R σ pc L (.long a :: rest) := by
  intro p e s m args below meth c H locs ls X hW hS hls
  have ht := X.2.2.2.2.2.1
  exact va_mabs_long X.1 X.2.1 (X.2.2.1.trans hls.1.symm) X.2.2.2.2.1 (ht _ hM.1) (ht _ hM.2.1) (ht _ hM.2.2.1) (ht _ hM.2.2.2) hdd (by simp only [rmH]; omega) (Nat.zero_le _) (Nat.zero_le _) hd (kk p e s m args below meth c H locs ls X hW hS hls)
end JS3
theorem mmX11_360 : MM RX11 360 Lib.Math.max.name Lib.Math.max.code 2 .int := ⟨GW_mem (tm5 183 (by decide +kernel)) (by decide +kernel), GW_mem (tm5 184 (by decide +kernel)) (by decide +kernel), GW_mem (tm1 15 (by decide +kernel)) (by decide +kernel), GW_mem (tm5 185 (by decide +kernel)) (by decide +kernel)⟩
theorem mmX11_432 : MM RX11 432 Lib.MathLoose.abs_long.x Lib.MathLoose.abs_long.code 2 .long := ⟨GW_mem (tm5 48 (by decide +kernel)) (by decide +kernel), GW_mem (tm5 49 (by decide +kernel)) (by decide +kernel), GW_mem (tm1 15 (by decide +kernel)) (by decide +kernel), GW_mem (tm5 50 (by decide +kernel)) (by decide +kernel)⟩
theorem mmX0_82 : MM RX0 82 Lib.Math.min.name Lib.Math.min.code 2 .int := ⟨GW_mem (tm5 86 (by decide +kernel)) (by decide +kernel), GW_mem (tm3 151 (by decide +kernel)) (by decide +kernel), GW_mem (tm1 15 (by decide +kernel)) (by decide +kernel), GW_mem (tm3 152 (by decide +kernel)) (by decide +kernel)⟩
theorem mmX6_19 : MM RX6 19 Lib.Math.min.name Lib.Math.min.code 2 .int := ⟨GW_mem (tm3 150 (by decide +kernel)) (by decide +kernel), GW_mem (tm3 151 (by decide +kernel)) (by decide +kernel), GW_mem (tm1 15 (by decide +kernel)) (by decide +kernel), GW_mem (tm3 152 (by decide +kernel)) (by decide +kernel)⟩
theorem mmX10_168 : MM RX10 168 Lib.Math.abs.name Lib.Math.abs.code 1 .int := ⟨GW_mem (tm5 13 (by decide +kernel)) (by decide +kernel), GW_mem (tm5 14 (by decide +kernel)) (by decide +kernel), GW_mem (tm1 15 (by decide +kernel)) (by decide +kernel), GW_mem (tm5 15 (by decide +kernel)) (by decide +kernel)⟩
theorem mmX12_139 : MM RX12 139 Lib.Math.min.name Lib.Math.min.code 2 .int := ⟨GW_mem (tm7 85 (by decide +kernel)) (by decide +kernel), GW_mem (tm3 151 (by decide +kernel)) (by decide +kernel), GW_mem (tm1 15 (by decide +kernel)) (by decide +kernel), GW_mem (tm3 152 (by decide +kernel)) (by decide +kernel)⟩
