/-! PURE 37: orders that are carried out: the plain machine, and the class -/
abbrev RS : Type := MTq × (Nat × Nat × Nat × Bool) × Nat × (Nat → Nat)
def guF (D : PD) (s : Nat) : Nat → MTq → Nat → MTq × Nat
  | 0, M, d => (M, d)
  | n + 1, M, d => ((vW (guF D s n M d).1.1 n (((guF D s n M d).2 * 2683 + 11587) % 65536 / 8 % 16) s, (guF D s n M d).1.2), ((guF D s n M d).2 * 2683 + 11587) % 65536)
def pfM (D : PD) (O : OD) (r : Nat) (M : MTq) (d : Nat) : MTq × Nat := if o_k O r = 10 then ((vW M.1 (o_w O r) (o_h O r) (o_n O r), M.2), d) else if o_k O r = 11 then (qnM D (o_n O r) M, d) else if o_k O r = 12 then ((vL M.1 (wiN (v_li M.1) (o_w O r) true), M.2), d) else if o_k O r = 13 then ((vL M.1 (wiN (v_li M.1) (o_w O r) false), M.2), d) else if o_k O r = 14 then ((vH M.1 (wiN (v_he M.1) (o_w O r) true), M.2), d) else if o_k O r = 15 then ((vH M.1 (wiN (v_he M.1) (o_w O r) false), M.2), d) else if o_k O r = 16 then ((tuS D (o_w O r) 1 (o_n O r) M).2, d) else if o_k O r = 17 then guF D (o_n O r) (d_p D) M d else (M, d)
def soB (D : PD) (O : OD) (r : Nat) (V : SD) : Bool := if o_h O r = 60 then decide (v_pt V (o_w O r) < o_n O r) else if o_h O r = 61 then decide (v_pt V (o_w O r) = o_n O r) else if o_h O r = 62 then decide (o_n O r < v_pt V (o_w O r)) else rgB D V (o_w O r)
def nxN (D : PD) (O : OD) (r : Nat) (V : SD) : Nat := if o_k O r = 22 then o_r O else if o_k O r = 18 then (if soB D O r V then r + 1 else o_p O r + 1) else r + 1
/-- a row -/
def stR (D : PD) (O : OD) (S : RS) : RS := if o_k O S.2.2.1 = 21 then (if o_k O (o_p O S.2.2.1) = 20 ∧ 1 < S.2.2.2 (o_p O S.2.2.1) then (S.1, S.2.1, o_p O S.2.2.1 + 1, fun o => if o = o_p O S.2.2.1 then S.2.2.2 o - 1 else S.2.2.2 o) else (S.1, S.2.1, S.2.2.1 + 1, S.2.2.2))
  else if S.2.1.2.2.1 < 400 then ((pfM D O S.2.2.1 S.1 S.2.1.1).1, ((pfM D O S.2.2.1 S.1 S.2.1.1).2, S.2.1.2.1 + (if o_k O S.2.2.1 = 11 then o_n O S.2.2.1 else 0), S.2.1.2.2.1 + 1, S.2.1.2.2.2), nxN D O S.2.2.1 (pfM D O S.2.2.1 S.1 S.2.1.1).1.1, fun o => if o_k O S.2.2.1 = 20 ∧ o = S.2.2.1 then o_n O S.2.2.1 else S.2.2.2 o)
  else (S.1, (S.2.1.1, S.2.1.2.1, S.2.1.2.2.1, true), o_r O, S.2.2.2)
def rnR (D : PD) (O : OD) : Nat → RS → Option RS
  | 0, _ => none
  | n + 1, S => if o_r O ≤ S.2.2.1 then some S else rnR D O n (stR D O S)
/-- what a state of a run is like -/
def RI (D : PD) (O : OD) (S : RS) : Prop := WFV D S.1.1 ∧ (S.1.2.1 ≤ 10000 * S.2.1.2.2.1 ∧ S.1.2.2.1 ≤ 10000 * S.2.1.2.2.1) ∧ S.2.1.2.2.1 ≤ 400 ∧ S.2.1.1 < 65536 ∧ S.2.2.1 ≤ o_r O ∧ ∀ o, o < 60 → S.2.2.2 o ≤ 99
section O
variable {σ τ ω : Mm} {v : Nat} {D : PD} {V : SD} {O : OD} {S : RS} {M : MTq} {L p g : Nat}
theorem vW_wf {q d s : Nat} (hV : WFV D V) (hd : d < 16) (hs : s ≤ 99) : WFV D (vW V q d s) := by
  refine ⟨fun i hi => ?_, hV.2⟩
  have := hV.1 i hi
  show (if i = q then d else v_fr V i) < 16 ∧ (if i = q then s else v_sg V i) ≤ 99
  split
  · exact ⟨hd, hs⟩
  · exact this
theorem gu_wf {s d : Nat} (hV : WFV D M.1) (hs : s ≤ 99) (hd : d < 65536) : ∀ n, WFV D (guF D s n M d).1.1 ∧ (guF D s n M d).1.2 = M.2 ∧ (guF D s n M d).2 < 65536 := by
  intro n
  induction n with
  | zero => exact ⟨hV, rfl, hd⟩
  | succ n ih =>
    rw [guF]
    exact ⟨vW_wf ih.1 (Nat.mod_lt _ (by decide)) hs, ih.2.1, Nat.mod_lt _ (by decide)⟩
theorem qn_le (hD : WFD D) : ∀ (n : Nat) (M : MTq), (qnM D n M).2.1 ≤ M.2.1 + 64 * n ∧ (qnM D n M).2.2.1 ≤ M.2.2.1 + 64 * n := by
  intro n
  induction n with
  | zero => intro M; exact ⟨Nat.le_refl _, Nat.le_refl _⟩
  | succ n ih =>
    intro M
    have h1 := ih (qtM D M)
    have h2 := qtM_le (M := M) hD
    rw [qnM]; omega
theorem tu_le (hD : WFD D) {t : Int} : ∀ (n : Nat) (M : MTq), (tuS D v t n M).2.2.1 ≤ M.2.1 + 8 * n ∧ (tuS D v t n M).2.2.2.1 ≤ M.2.2.1 + 8 * n := by
  intro n
  induction n with
  | zero => intro M; exact ⟨Nat.le_refl _, Nat.le_refl _⟩
  | succ n ih =>
    intro M
    have hd := hD.1
    rw [tuS]
    split
    · have h1 := ih (mvF D M.1 (egZ D M.1 v t), mvC D M.1 (egZ D M.1 v t) (d_v D) M.2)
      have h2 := mvC_le (D := D) (V := M.1) (g := egZ D M.1 v t) M.2 (d_v D)
      dsimp only at h1 ⊢
      omega
    · dsimp only; omega
theorem wi_lt {a i n : Nat} {b : Bool} (h : a < 2 ^ n) (hi : i < n) : wiN a i b < 2 ^ n := wiN_lt h hi
/-- a row of orders, by what it is -/
theorem pf_wf {r d : Nat} (hD : WFD D) (hO : WFr D O r) (hV : WFV D M.1) (hd : d < 65536) : WFV D (pfM D O r M d).1.1 ∧ (pfM D O r M d).1.2.1 ≤ M.2.1 + 10000 ∧ (pfM D O r M d).1.2.2.1 ≤ M.2.2.1 + 10000 ∧ (pfM D O r M d).2 < 65536 := by
  unfold pfM
  rcases hO with h | h | h | h | h | h | h | h | h | h
  · rw [if_pos h.1]
    exact ⟨vW_wf hV h.2.2.1 h.2.2.2, Nat.le_add_right _ _, Nat.le_add_right _ _, hd⟩
  · rw [if_neg (by omega), if_neg (by omega), if_neg (by omega), if_neg (by omega), if_neg (by omega), if_neg (by omega), if_neg (by omega), if_pos h.1]
    obtain ⟨g1, g2, g3⟩ := gu_wf hV h.2 hd (d_p D)
    rw [g2]
    exact ⟨g1, Nat.le_add_right _ _, Nat.le_add_right _ _, g3⟩
  · rw [if_neg (by omega), if_pos h.1]
    have := qn_le hD (o_n O r) M
    exact ⟨qn_wf hD _ _ hV, by dsimp only; omega, by dsimp only; omega, hd⟩
  · rcases h.1 with e | e
    · rw [if_neg (by omega), if_neg (by omega), if_pos e]
      exact ⟨hV.vL (wi_lt hV.2.2.2.1 h.2), Nat.le_add_right _ _, Nat.le_add_right _ _, hd⟩
    · rw [if_neg (by omega), if_neg (by omega), if_neg (by omega), if_pos e]
      exact ⟨hV.vL (wi_lt hV.2.2.2.1 h.2), Nat.le_add_right _ _, Nat.le_add_right _ _, hd⟩
  · rcases h.1 with e | e
    · rw [if_neg (by omega), if_neg (by omega), if_neg (by omega), if_neg (by omega), if_pos e]
      exact ⟨hV.vH (wi_lt hV.2.2.2.2.1 h.2), Nat.le_add_right _ _, Nat.le_add_right _ _, hd⟩
    · rw [if_neg (by omega), if_neg (by omega), if_neg (by omega), if_neg (by omega), if_neg (by omega), if_pos e]
      exact ⟨hV.vH (wi_lt hV.2.2.2.2.1 h.2), Nat.le_add_right _ _, Nat.le_add_right _ _, hd⟩
  · rw [if_neg (by omega), if_neg (by omega), if_neg (by omega), if_neg (by omega), if_neg (by omega), if_neg (by omega), if_pos h.1]
    have := tu_le (v := o_w O r) (t := 1) hD (o_n O r) M
    exact ⟨(tu_wf hD (by decide) _ _ hV).1, by dsimp only; omega, by dsimp only; omega, hd⟩
  all_goals
    rw [if_neg (by omega), if_neg (by omega), if_neg (by omega), if_neg (by omega), if_neg (by omega), if_neg (by omega), if_neg (by omega), if_neg (by omega)]
    exact ⟨hV, Nat.le_add_right _ _, Nat.le_add_right _ _, hd⟩
theorem nx_le {r : Nat} (hO : WFr D O r) (hr : r < o_r O) : nxN D O r V ≤ o_r O := by
  unfold nxN
  rcases hO with h | h | h | h | h | h | h | h | h | h
  all_goals
    repeat' split
    all_goals omega
theorem st_I (hD : WFD D) (hO : WFO D O) (hg : o_g O = true) (h : RI D O S) (hr : S.2.2.1 < o_r O) : RI D O (stR D O S) := by
  obtain ⟨-, o60, hrow, -⟩ := hO hg
  have hrw := hrow _ hr
  obtain ⟨h1, h2, h3, h4, h5, h6⟩ := h
  unfold stR
  by_cases c : o_k O S.2.2.1 = 21
  · have hp : o_p O S.2.2.1 < S.2.2.1 := by
      rcases hrw with h | h | h | h | h | h | h | h | h | h <;> omega
    rw [if_pos c]
    by_cases c2 : o_k O (o_p O S.2.2.1) = 20 ∧ 1 < S.2.2.2 (o_p O S.2.2.1)
    · rw [if_pos c2]
      refine ⟨h1, h2, h3, h4, by show o_p O S.2.2.1 + 1 ≤ _; omega, fun o ho => ?_⟩
      show (if o = o_p O S.2.2.1 then S.2.2.2 o - 1 else S.2.2.2 o) ≤ 99
      have := h6 o ho
      split <;> omega
    · rw [if_neg c2]
      exact ⟨h1, h2, h3, h4, hr, h6⟩
  · rw [if_neg c]
    by_cases c2 : S.2.1.2.2.1 < 400
    · rw [if_pos c2]
      have hp := pf_wf (M := S.1) (d := S.2.1.1) hD hrw h1 h4
      refine ⟨hp.1, ⟨?_, ?_⟩, c2, hp.2.2.2, nx_le hrw hr, fun o ho => ?_⟩
      · show (pfM D O S.2.2.1 S.1 S.2.1.1).1.2.1 ≤ 10000 * (S.2.1.2.2.1 + 1); omega
      · show (pfM D O S.2.2.1 S.1 S.2.1.1).1.2.2.1 ≤ 10000 * (S.2.1.2.2.1 + 1); omega
      · show (if o_k O S.2.2.1 = 20 ∧ o = S.2.2.1 then o_n O S.2.2.1 else S.2.2.2 o) ≤ 99
        have := h6 o ho
        by_cases c3 : o_k O S.2.2.1 = 20 ∧ o = S.2.2.1
        · rw [if_pos c3]
          rcases hrw with h | h | h | h | h | h | h | h | h | h <;> omega
        · rw [if_neg c3]; exact this
    · rw [if_neg c2]
      exact ⟨h1, h2, h3, h4, Nat.le_refl _, h6⟩
/-! how long it takes -/
def emB (O : OD) (o : Nat) : Bool := decide (o_k O o = 20) && decide (o + 1 < o_r O) && decide (o_k O (o + 1) = 21)
def emN (O : OD) (d : Nat → Nat) (o : Nat) : Nat := if emB O o then d o - 1 else 0
def msN (O : OD) (S : RS) : Nat := 200 * (400 - S.2.1.2.2.1) + smN (emN O S.2.2.2) 60 + (if o_k O S.2.2.1 = 21 then (o_r O - S.2.2.1) + 3 else 2)
theorem sm_cg {f f' : Nat → Nat} : ∀ n, (∀ i, i < n → f i = f' i) → smN f n = smN f' n := by
  intro n
  induction n with
  | zero => intro _; rfl
  | succ n ih => intro h; rw [smN, smN, ih (fun i hi => h i (by omega)), h n (by omega)]
theorem sm_up {f f' : Nat → Nat} {k : Nat} (h : ∀ i, i ≠ k → f' i = f i) : ∀ n, k < n → smN f' n + f k = smN f n + f' k := by
  intro n
  induction n with
  | zero => intro h; omega
  | succ n ih =>
    intro hk
    rw [smN, smN]
    by_cases e : k = n
    · subst e
      rw [sm_cg k (fun i hi => h i (by omega))]; omega
    · have := ih (by omega)
      rw [h n (by omega)]; omega
theorem ms_dn (hO : WFO D O) (hg : o_g O = true) (h : RI D O S) (hr : S.2.2.1 < o_r O) : o_r O ≤ (stR D O S).2.2.1 ∨ msN O (stR D O S) < msN O S := by
  obtain ⟨-, o60, hrow, hemp⟩ := hO hg
  have hrw := hrow _ hr
  obtain ⟨h1, h2, h3, h4, h5, h6⟩ := h
  unfold stR
  by_cases c : o_k O S.2.2.1 = 21
  · have hp : o_p O S.2.2.1 < S.2.2.1 := by
      rcases hrw with h | h | h | h | h | h | h | h | h | h <;> omega
    rw [if_pos c]
    by_cases c2 : o_k O (o_p O S.2.2.1) = 20 ∧ 1 < S.2.2.2 (o_p O S.2.2.1)
    · rw [if_pos c2]
      right
      unfold msN
      rw [if_pos c]
      dsimp only
      have hu := sm_up (f := emN O S.2.2.2) (f' := emN O (fun o => if o = o_p O S.2.2.1 then S.2.2.2 o - 1 else S.2.2.2 o)) (k := o_p O S.2.2.1) (fun i hi => by unfold emN; dsimp only; rw [if_neg hi]) 60 (by omega)
      by_cases c3 : o_k O (o_p O S.2.2.1 + 1) = 21
      · have hown : o_p O (o_p O S.2.2.1 + 1) = o_p O S.2.2.1 := hemp _ (by omega) c2.1 c3
        have hkk : o_p O S.2.2.1 + 1 = S.2.2.1 := by
          have hrw2 := hrow (o_p O S.2.2.1) (by omega)
          have e1 : o_p O (o_p O S.2.2.1) = S.2.2.1 := by
            rcases hrw with h | h | h | h | h | h | h | h | h | h <;> first | omega | exact h.2.2.2
          have hrw3 := hrow (o_p O S.2.2.1 + 1) (by omega)
          have e2 : o_p O (o_p O (o_p O S.2.2.1 + 1)) = o_p O S.2.2.1 + 1 := by
            rcases hrw3 with h | h | h | h | h | h | h | h | h | h <;> first | omega | exact h.2.2.2
          rw [hown, e1] at e2
          exact e2.symm
        have hem : emB O (o_p O S.2.2.1) = true := by
          unfold emB; rw [decide_eq_true c2.1, decide_eq_true (show o_p O S.2.2.1 + 1 < o_r O by omega), decide_eq_true c3]; rfl
        have v1 : emN O S.2.2.2 (o_p O S.2.2.1) = S.2.2.2 (o_p O S.2.2.1) - 1 := by unfold emN; rw [if_pos hem]
        have v2 : emN O (fun o => if o = o_p O S.2.2.1 then S.2.2.2 o - 1 else S.2.2.2 o) (o_p O S.2.2.1) = S.2.2.2 (o_p O S.2.2.1) - 1 - 1 := by unfold emN; rw [if_pos hem]; dsimp only; rw [if_pos rfl]
        rw [if_pos c3]
        omega
      · have v2 : emN O (fun o => if o = o_p O S.2.2.1 then S.2.2.2 o - 1 else S.2.2.2 o) (o_p O S.2.2.1) ≤ emN O S.2.2.2 (o_p O S.2.2.1) := by
          unfold emN; split
          · dsimp only; rw [if_pos rfl]; omega
          · omega
        rw [if_neg c3]
        omega
    · rw [if_neg c2]
      by_cases c4 : o_r O ≤ S.2.2.1 + 1
      · exact Or.inl c4
      · right
        unfold msN
        rw [if_pos c]
        dsimp only
        split <;> omega
  · rw [if_neg c]
    by_cases c2 : S.2.1.2.2.1 < 400
    · rw [if_pos c2]
      right
      unfold msN
      rw [if_neg c]
      dsimp only
      have hsum : smN (emN O (fun o => if o_k O S.2.2.1 = 20 ∧ o = S.2.2.1 then o_n O S.2.2.1 else S.2.2.2 o)) 60 ≤ smN (emN O S.2.2.2) 60 + 98 := by
        by_cases c3 : o_k O S.2.2.1 = 20
        · have hu := sm_up (f := emN O S.2.2.2) (f' := emN O (fun o => if o_k O S.2.2.1 = 20 ∧ o = S.2.2.1 then o_n O S.2.2.1 else S.2.2.2 o)) (k := S.2.2.1) (fun i hi => by unfold emN; dsimp only; rw [if_neg (show ¬ (o_k O S.2.2.1 = 20 ∧ i = S.2.2.1) from fun z => hi z.2)]) 60 (by omega)
          have v2 : emN O (fun o => if o_k O S.2.2.1 = 20 ∧ o = S.2.2.1 then o_n O S.2.2.1 else S.2.2.2 o) S.2.2.1 ≤ 98 := by
            unfold emN
            split
            · dsimp only
              rw [if_pos ⟨c3, rfl⟩]
              rcases hrw with h | h | h | h | h | h | h | h | h | h <;> omega
            · omega
          omega
        · rw [sm_cg 60 (f' := emN O S.2.2.2) (fun i _ => by unfold emN; dsimp only; rw [if_neg (show ¬ (o_k O S.2.2.1 = 20 ∧ i = S.2.2.1) from fun z => c3 z.1)])]; omega
      have hnx := nx_le (V := (pfM D O S.2.2.1 S.1 S.2.1.1).1.1) hrw hr
      split <;> omega
    · rw [if_neg c2]
      exact Or.inl (Nat.le_refl _)
theorem rn_ex (hD : WFD D) (hO : WFO D O) (hg : o_g O = true) : ∀ (n : Nat) (S : RS), RI D O S → (o_r O ≤ S.2.2.1 ∨ msN O S < n) → 1 ≤ n → ∃ S', rnR D O (n + 1) S = some S' ∧ RI D O S' := by
  intro n
  induction n with
  | zero => intro S _ _ h; omega
  | succ n ih =>
    intro S h hm _
    rw [rnR]
    by_cases c : o_r O ≤ S.2.2.1
    · rw [if_pos c]; exact ⟨S, rfl, h⟩
    · rw [if_neg c]
      have hr : S.2.2.1 < o_r O := by omega
      have hs := st_I hD hO hg h hr
      have hd := ms_dn hO hg h hr
      rcases hm with hm | hm
      · exact absurd hm c
      · have h2 : 2 ≤ msN O S := by unfold msN; split <;> omega
        exact ih (stR D O S) hs (hd.elim Or.inl (fun z => Or.inr (by omega))) (by omega)
theorem ms_b (h : RI D O S) (ho : o_r O ≤ 60) : msN O S < 90000 := by
  obtain ⟨h1, h2, h3, h4, h5, h6⟩ := h
  have hs := sm_le (f := emN O S.2.2.2) (k := 98) 60 (fun i hi => by
    have := h6 i hi
    unfold emN; split <;> omega)
  unfold msN
  split <;> omega
end O
