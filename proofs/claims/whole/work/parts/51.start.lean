def fr0 (o k : Nat) : Value := match (fc (KD o) k).1 with
  | 0 => .int (sc0 o k)
  | 1 => .long (lg0 o k)
  | 2 => (match rf0 o k with
    | some q => .ref (of_ q 0)
    | none => .null)
  | 3 => .ref (of_ o ((fc (KD o) k).2 + 1))
  | _ => .ref (of_ (tg o k) 0)
theorem fr0_ok {E : EV} (hE : ∀ o j, e_a E o j = e_B E + of_ o j) (o k : Nat) : rl E (fr0 o k) = fv E mm0 o k := by
  unfold fr0 fv
  generalize (fc (KD o) k).1 = n
  match n with
  | 0 => rfl
  | 1 => rfl
  | 2 =>
    show rl E (match rf0 o k with
      | some q => .ref (of_ q 0)
      | none => .null) = va_rf ((rf0 o k).map _)
    cases rf0 o k with
    | none => rfl
    | some q => simp [rl, va_rf, hE]
  | 3 => simp [rl, hE]
  | n + 4 => simp [rl, hE]
def isL (x : Option XC) (q : Nat × List Value) : Bool := match x with
  | some (.inl r) => decide (r = q)
  | _ => false
def isR (x : Option XC) (q : Nat × Nat × List (Nat × Value)) : Bool := match x with
  | some (.inr r) => decide (r = q)
  | _ => false
theorem isL_t {x : Option XC} {q : Nat × List Value} (h : isL x q = true) : x = some (.inl q) := by
  unfold isL at h
  split at h
  · rw [of_decide_eq_true h]
  · cases h
theorem isR_t {x : Option XC} {q : Nat × Nat × List (Nat × Value)} (h : isR x q = true) : x = some (.inr q) := by
  unfold isR at h
  split at h
  · rw [of_decide_eq_true h]
  · cases h
def us0 (o j : Nat) : List (Nat × Value) := match o, j with
  | 0, 0 => [(3, .ref 83), (2, .ref 81), (1, .ref 79), (0, .ref 77)]
  | 0, 1 => [(2, .ref 137), (1, .ref 111), (0, .ref 85)]
  | 31, 0 => [(6, .int (-1))]
  | 31, 3 => [(3, .int (-1)), (2, .int (-1)), (1, .int (-1)), (0, .int (-1))]
  | _, _ => []
theorem cs_obj : ∀ o, o < 32 → isL csF[of_ o 0]? (KD o, (List.range (nF (KD o))).map (fr0 o)) = true := by decide +kernel
theorem cs_arr : ∀ o, o < 32 → ∀ j, j < nA (KD o) → isR csF[of_ o (j + 1)]? ((at_ (KD o) j).1, (at_ (KD o) j).2, us0 o j) = true := by decide +kernel
theorem iv_ok : ∀ o, o < 32 → ∀ j, j ≤ nA (KD o) → ivL.getD (of_ o j) (0, 0) = (o, j) := by decide +kernel
theorem kd_in {o : Nat} (h : KD o < 13) : o < 32 := kd_lt rfl h
theorem arrV_congr (c : ClassId) {n : Nat} {f g : Nat → Value} (h : ∀ i, i < n → f i = g i) : arrV c n f = arrV c n g := by
  unfold arrV
  congr 2
  funext i
  exact h i.val i.isLt
theorem us0_nil {o j : Nat} (h0 : o ≠ 0) (h1 : o ≠ 31) : us0 o j = [] := by
  unfold us0
  split <;> first | rfl | (exact absurd rfl h0) | (exact absurd rfl h1)
theorem ar0_zero {o j : Nat} (h1 : o ≠ 31) (i : Nat) : ar0 o j i = 0 := by
  simp [ar0, h1]
theorem k31 : KD 31 = 12 := by decide
theorem GE.at0 {E : EV} (hE : ∀ o j, e_a E o j = e_B E + of_ o j) : GE E := by
  refine ⟨fun o j o' j' h h' e => ?_, fun o j _ => by rw [hE]; exact Nat.le_add_right _ _⟩
  rw [hE, hE] at e
  have e1 : of_ o j = of_ o' j' := Nat.add_left_cancel e
  have a := iv_ok o (kd_in h.1) j h.2
  have b := iv_ok o' (kd_in h'.1) j' h'.2
  rw [e1, b] at a
  cases a
  exact ⟨rfl, rfl⟩
theorem ac_at0 {E : EV} (hE : ∀ o j, e_a E o j = e_B E + of_ o j) {o j : Nat} (ho : o < 32) (hj : j < nA (KD o)) : vp_cell (e_c E (at_ (KD o) j).1) ((at_ (KD o) j).2, k_c E (at_ (KD o) j).1 (us0 o j)) = vp_cell (e_c E (at_ (KD o) j).1) (ac E mm0 o j) := by
  by_cases h0 : o = 0
  · subst h0
    have hj2 : j < 2 := hj
    match j, hj2 with
    | 0, _ =>
      show arrV _ 4 (fun i => va_rf (x_r E (x_k (us0 0 0) i))) = arrV _ 4 (fun i => va_rf (some (e_a E (ra 0 i) 0)))
      refine arrV_congr _ fun i hi => ?_
      match i, hi with
      | 0, _ => rw [hE]; rfl
      | 1, _ => rw [hE]; rfl
      | 2, _ => rw [hE]; rfl
      | 3, _ => rw [hE]; rfl
    | 1, _ =>
      show arrV _ 3 (fun i => va_rf (x_r E (x_k (us0 0 1) i))) = arrV _ 3 (fun i => va_rf (some (e_a E (ra 1 i) 0)))
      refine arrV_congr _ fun i hi => ?_
      match i, hi with
      | 0, _ => rw [hE]; rfl
      | 1, _ => rw [hE]; rfl
      | 2, _ => rw [hE]; rfl
  · have hk3 : (at_ (KD o) j).1 < 3 := (show ∀ o, o < 32 → o ≠ 0 → ∀ j, j < nA (KD o) → (at_ (KD o) j).1 < 3 by decide +kernel) o ho h0 j hj
    have hac : ac E mm0 o j = ((at_ (KD o) j).2, match (at_ (KD o) j).1 with
      | 0 => .inl (ar0 o j)
      | 1 => .inl (ar0 o j)
      | 2 => .inr (.inl (fun _ => 0))
      | _ => .inr (.inr (.inr (.inr (fun i => some (e_a E (ra j i) 0)))))) := rfl
    rw [hac]
    have hx : ∀ i, x_i (x_k (us0 o j) i) = ar0 o j i := by
      intro i
      by_cases h1 : o = 31
      · subst h1
        have hj2 : j < 17 := hj
        match j, hj2 with
        | 0, _ => show x_i (x_k [(6, .int (-1))] i) = _; rw [x_k_cons]; by_cases hi : i = 6 <;> simp [ar0, hi, x_i, x_k]
        | 1, _ => show x_i (x_k [] i) = _; simp [ar0, x_i, x_k]
        | 2, _ => show x_i (x_k [] i) = _; simp [ar0, x_i, x_k]
        | 3, _ => show x_i (x_k [(3, .int (-1)), (2, .int (-1)), (1, .int (-1)), (0, .int (-1))] i) = _; simp only [x_k_cons]; by_cases h3 : i = 3 <;> by_cases h2 : i = 2 <;> by_cases h1 : i = 1 <;> by_cases h0 : i = 0 <;> simp [ar0, h3, h2, h1, h0, x_i, x_k] <;> omega
        | 4, _ => show x_i (x_k [] i) = _; simp [ar0, x_i, x_k]
        | 5, _ => show x_i (x_k [] i) = _; simp [ar0, x_i, x_k]
        | 6, _ => show x_i (x_k [] i) = _; simp [ar0, x_i, x_k]
        | 7, _ => show x_i (x_k [] i) = _; simp [ar0, x_i, x_k]
        | 8, _ => show x_i (x_k [] i) = _; simp [ar0, x_i, x_k]
        | 9, _ => show x_i (x_k [] i) = _; simp [ar0, x_i, x_k]
        | 10, _ => show x_i (x_k [] i) = _; simp [ar0, x_i, x_k]
        | 11, _ => show x_i (x_k [] i) = _; simp [ar0, x_i, x_k]
        | 12, _ => show x_i (x_k [] i) = _; simp [ar0, x_i, x_k]
        | 13, _ => show x_i (x_k [] i) = _; simp [ar0, x_i, x_k]
        | 14, _ => show x_i (x_k [] i) = _; simp [ar0, x_i, x_k]
        | 15, _ => show x_i (x_k [] i) = _; simp [ar0, x_i, x_k]
        | 16, _ => show x_i (x_k [] i) = _; simp [ar0, x_i, x_k]
      · rw [us0_nil h0 h1, ar0_zero h1]
        rfl
    generalize (at_ (KD o) j).1 = t at hk3
    match t, hk3 with
    | 0, _ => rw [show k_c E 0 (us0 o j) = .inl (ar0 o j) from congrArg Sum.inl (funext hx)]; rfl
    | 1, _ => rw [show k_c E 1 (us0 o j) = .inl (ar0 o j) from congrArg Sum.inl (funext hx)]; rfl
    | 2, _ => rfl
theorem HO.at0 {E : EV} (hE : ∀ o j, e_a E o j = e_B E + of_ o j) {H : Heap} (h : KH E csF H) : HO E mm0 H := by
  refine ⟨fun o ho => ?_, fun o j ho hj => ?_⟩
  · obtain ⟨-, -, hq⟩ := h.2 _ _ (isL_t (cs_obj o (kd_in ho)))
    dsimp only at hq
    rw [hE]
    refine hq.to fun k hk => ?_
    rw [List.getD_eq_getElem?_getD, List.getElem?_map, List.getElem?_range hk]
    exact fr0_ok hE o k
  · obtain ⟨-, hq⟩ := h.2 _ _ (isR_t (cs_arr o (kd_in ho) j hj))
    dsimp only at hq
    rw [hE, hq]
    exact congrArg some (ac_at0 hE (kd_in ho) hj)
