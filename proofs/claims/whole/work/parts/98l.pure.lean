/-! PURE 50: orders, plainly -/
abbrev OS : Type := OD × (Nat → Nat) × Nat
def isStp (k : Nat) : Bool := (decide (10 ≤ k) && decide (k ≤ 18)) || decide (k = 20) || decide (k = 22)
theorem isStp_e {k : Nat} : isStp k = true ↔ (10 ≤ k ∧ k ≤ 18) ∨ k = 20 ∨ k = 22 := by simp [isStp, or_assoc]
abbrev R4 : Type := (Nat × Nat × Nat) × Nat
/-- the numbers of a step -/
def sTs (X : TX) (D : PD) (p : Nat) : RZ R4 := if tW X p = 19 then (eb (sFd X (d_nv D) (d_v D) (tE X p)) fun a => .ok ((a.1, 19, 0), a.2)) else (eb (sKw X 5 p) fun q => eb (sFd X (d_nv D) (d_v D) q) fun a => eb (sCm X a.2) fun c => eb (sNu X 0 60 c.2) fun d => .ok ((a.1, c.1, d.1), d.2))
def sRw (X : TX) (D : PD) (k p : Nat) : RZ R4 := if k = 10 then (eb (sFd X (d_np D) (d_p D) p) fun a => eb (sNu X 0 15 a.2) fun b => eb (sNu X 0 99 b.2) fun c => .ok ((a.1, b.1, c.1), c.2))
  else if k = 17 then (eb (sNu X 0 99 p) fun c => .ok ((0, 0, c.1), c.2))
  else if k = 11 ∨ k = 20 then (eb (sNu X 1 99 p) fun c => .ok ((0, 0, c.1), c.2))
  else if k = 12 ∨ k = 13 then (eb (sFd X (d_ns D) (d_s D) p) fun a => .ok ((a.1, 0, 0), a.2))
  else if k = 14 ∨ k = 15 then (eb (sFd X (d_nv D) (d_v D) p) fun a => .ok ((a.1, 0, 0), a.2))
  else if k = 16 then (eb (sFd X (d_nv D) (d_v D) p) fun a => eb (sNu X 1 99 a.2) fun c => .ok ((a.1, 0, c.1), c.2))
  else if k = 18 then sTs X D p
  else .ok ((0, 0, 0), p)
def opn (k : Nat) : Bool := decide (k = 18) || decide (k = 20)
theorem opn_e {k : Nat} : opn k = true ↔ k = 18 ∨ k = 20 := by simp [opn]
def addO (s : OS) (k : Nat) (a : Nat × Nat × Nat) : OS := (((true, o_m s.1 + 1, o_r s.1 + 1), updN (o_k s.1) (o_r s.1) k, updN (o_w s.1) (o_r s.1) a.1, updN (o_h s.1) (o_r s.1) a.2.1, updN (o_n s.1) (o_r s.1) a.2.2, o_p s.1), if opn k = true then updN s.2.1 s.2.2 (o_r s.1) else s.2.1, if opn k = true then s.2.2 + 1 else s.2.2)
def clsO (s : OS) : OS := (((true, o_m s.1, o_r s.1 + 1), updN (o_k s.1) (o_r s.1) 21, o_w s.1, o_h s.1, o_n s.1, updN (updN (o_p s.1) (s.2.1 (s.2.2 - 1)) (o_r s.1)) (o_r s.1) (s.2.1 (s.2.2 - 1))), s.2.1, s.2.2 - 1)
def sSt (X : TX) (D : PD) (s : OS) (p : Nat) : RZ (OS × Nat) := if tW X p = 21 then (if s.2.2 = 0 then .error (rT X p) else eb (sSg X (tE X p)) fun q => .ok (clsO s, q))
  else if isStp (tW X p) = true then (if 30 ≤ o_m s.1 then .error (6, tA X p) else if opn (tW X p) = true ∧ 3 ≤ s.2.2 then .error (7, tA X p) else eb (sRw X D (tW X p) (tE X p)) fun a => eb (sSg X a.2) fun q => .ok (addO s (tW X p) a.1, q))
  else .error (rT X p)
def spOr (X : TX) (D : PD) : Nat → OS → Nat → RZ OS
  | 0, _, _ => .error (1, 0)
  | m + 1, s, p => if tK X p = 0 then (if 0 < s.2.2 then .error (rT X p) else .ok s) else eb (sSt X D s p) fun a => spOr X D m a.1 a.2
/-! what rows are like as they are read -/
def BR (D : PD) (k w h n : Nat) : Prop := (k = 10 ∧ w < d_p D ∧ h < 16 ∧ n ≤ 99) ∨ (k = 17 ∧ n ≤ 99) ∨ (k = 11 ∧ 1 ≤ n ∧ n ≤ 99) ∨ ((k = 12 ∨ k = 13) ∧ w < d_s D) ∨ ((k = 14 ∨ k = 15) ∧ w < d_v D) ∨ (k = 16 ∧ w < d_v D ∧ 1 ≤ n ∧ n ≤ 99) ∨ (k = 18 ∧ w < d_v D ∧ (h = 19 ∨ ((h = 60 ∨ h = 62 ∨ h = 61) ∧ n ≤ 60))) ∨ (k = 20 ∧ 1 ≤ n ∧ n ≤ 99) ∨ k = 22 ∨ k = 21
def PT (O : OD) (r : Nat) : Prop := r < o_p O r ∧ o_p O r < o_r O ∧ o_k O (o_p O r) = 21 ∧ o_p O (o_p O r) = r
def OpB (s : OS) (r : Nat) : Prop := ∃ i, i < s.2.2 ∧ s.2.1 i = r
def PP (s : OS) (r : Nat) : Prop := ((o_k s.1 r = 18 ∨ o_k s.1 r = 20) → OpB s r ∨ PT s.1 r) ∧ (o_k s.1 r = 21 → o_p s.1 r < r ∧ (o_k s.1 (o_p s.1 r) = 18 ∨ o_k s.1 (o_p s.1 r) = 20) ∧ o_p s.1 (o_p s.1 r) = r ∧ ∀ i, i < s.2.2 → s.2.1 i ≠ o_p s.1 r)
def IvO (D : PD) (s : OS) : Prop := (o_m s.1 ≤ 30 ∧ o_r s.1 + s.2.2 ≤ 2 * o_m s.1 ∧ s.2.2 ≤ 3) ∧ (∀ r, r < o_r s.1 → BR D (o_k s.1 r) (o_w s.1 r) (o_h s.1 r) (o_n s.1 r) ∧ PP s r) ∧
  (∀ i, i < s.2.2 → s.2.1 i < o_r s.1 ∧ (o_k s.1 (s.2.1 i) = 18 ∨ o_k s.1 (s.2.1 i) = 20)) ∧ (∀ i j, i < j → j < s.2.2 → s.2.1 i < s.2.1 j) ∧
  (∀ r, r + 1 < o_r s.1 → o_k s.1 r = 20 → o_k s.1 (r + 1) = 21 → o_p s.1 (r + 1) = r) ∧ (0 < o_r s.1 → (o_k s.1 (o_r s.1 - 1) = 18 ∨ o_k s.1 (o_r s.1 - 1) = 20) → 0 < s.2.2 ∧ s.2.1 (s.2.2 - 1) = o_r s.1 - 1)
section O
variable {X : TX} {p : Nat} {D : PD} {s : OS}
theorem sCm_ok {a : Nat × Nat} (h : sCm X p = .ok a) : a.1 = 60 ∨ a.1 = 62 ∨ a.1 = 61 := by
  unfold sCm at h
  split at h
  · rename_i q
    injection h with h
    rw [← h]
    have hk := q.1
    unfold tK at hk
    split at hk
    · cases hk
    · split at hk
      · cases hk
      · split at hk
        · split at hk <;> cases hk
        · split at hk
          · rename_i c
            rcases isSg_e.mp c with e | e | e | e
            · exact absurd e q.2
            · exact Or.inl e
            · exact Or.inr (Or.inl e)
            · exact Or.inr (Or.inr e)
          · cases hk
  · cases h
theorem sRw_ok {k : Nat} {a : R4} (hk : isStp k = true) (h : sRw X D k p = .ok a) : BR D k a.1.1 a.1.2.1 a.1.2.2 := by
  have hk := isStp_e.mp hk
  unfold sRw at h
  split at h
  · obtain ⟨a1, e1, h⟩ := eb_ok h
    obtain ⟨a2, e2, h⟩ := eb_ok h
    obtain ⟨a3, e3, h⟩ := eb_ok h
    injection h with h
    rw [← h]
    have := (sNu_ok e2).2
    exact Or.inl ⟨by assumption, (sFd_ok e1).1, by dsimp only; omega, (sNu_ok e3).2⟩
  · split at h
    · obtain ⟨a1, e1, h⟩ := eb_ok h
      injection h with h
      rw [← h]
      exact Or.inr (Or.inl ⟨by assumption, (sNu_ok e1).2⟩)
    · split at h
      · rename_i c
        obtain ⟨a1, e1, h⟩ := eb_ok h
        injection h with h
        rw [← h]
        rcases c with c | c
        · exact Or.inr (Or.inr (Or.inl ⟨c, sNu_ok e1⟩))
        · exact Or.inr (Or.inr (Or.inr (Or.inr (Or.inr (Or.inr (Or.inr (Or.inl ⟨c, sNu_ok e1⟩)))))))
      · split at h
        · obtain ⟨a1, e1, h⟩ := eb_ok h
          injection h with h
          rw [← h]
          exact Or.inr (Or.inr (Or.inr (Or.inl ⟨by assumption, (sFd_ok e1).1⟩)))
        · split at h
          · obtain ⟨a1, e1, h⟩ := eb_ok h
            injection h with h
            rw [← h]
            exact Or.inr (Or.inr (Or.inr (Or.inr (Or.inl ⟨by assumption, (sFd_ok e1).1⟩))))
          · split at h
            · obtain ⟨a1, e1, h⟩ := eb_ok h
              obtain ⟨a2, e2, h⟩ := eb_ok h
              injection h with h
              rw [← h]
              exact Or.inr (Or.inr (Or.inr (Or.inr (Or.inr (Or.inl ⟨by assumption, (sFd_ok e1).1, sNu_ok e2⟩)))))
            · split at h
              · unfold sTs at h
                split at h
                · obtain ⟨a1, e1, h⟩ := eb_ok h
                  injection h with h
                  rw [← h]
                  exact Or.inr (Or.inr (Or.inr (Or.inr (Or.inr (Or.inr (Or.inl ⟨by assumption, (sFd_ok e1).1, Or.inl rfl⟩))))))
                · obtain ⟨a0, e0, h⟩ := eb_ok h
                  obtain ⟨a1, e1, h⟩ := eb_ok h
                  obtain ⟨a2, e2, h⟩ := eb_ok h
                  obtain ⟨a3, e3, h⟩ := eb_ok h
                  injection h with h
                  rw [← h]
                  exact Or.inr (Or.inr (Or.inr (Or.inr (Or.inr (Or.inr (Or.inl ⟨by assumption, (sFd_ok e1).1, Or.inr ⟨show a2.1 = 60 ∨ a2.1 = 62 ∨ a2.1 = 61 from sCm_ok e2, (sNu_ok e3).2⟩⟩))))))
              · exact Or.inr (Or.inr (Or.inr (Or.inr (Or.inr (Or.inr (Or.inr (Or.inr (Or.inl (by omega)))))))))
theorem add_w {k : Nat} {a : Nat × Nat × Nat} (h : IvO D s) (hk : isStp k = true) (hm : o_m s.1 < 30) (ho : opn k = true → s.2.2 < 3) (hb : BR D k a.1 a.2.1 a.2.2) : IvO D (addO s k a) ∧ o_r (addO s k a).1 = o_r s.1 + 1 := by
  obtain ⟨⟨a1, a2, a3⟩, b, c, d, e, f⟩ := h
  have hk := isStp_e.mp hk
  refine ⟨⟨⟨?_, ?_, ?_⟩, fun r hr => ?_, fun i hi => ?_, fun i j hij hj => ?_, fun r hr h1 h2 => ?_, fun _ hq => ?_⟩, rfl⟩
  · show o_m s.1 + 1 ≤ 30; omega
  · show o_r s.1 + 1 + (if opn k = true then s.2.2 + 1 else s.2.2) ≤ 2 * (o_m s.1 + 1)
    split <;> omega
  · show (if opn k = true then s.2.2 + 1 else s.2.2) ≤ 3
    split
    · rename_i q; have := ho q; omega
    · exact a3
  · have hr : r < o_r s.1 + 1 := hr
    by_cases q : r = o_r s.1
    · subst q
      refine ⟨?_, ?_, ?_⟩
      · show BR D (updN (o_k s.1) (o_r s.1) k (o_r s.1)) (updN (o_w s.1) (o_r s.1) a.1 (o_r s.1)) (updN (o_h s.1) (o_r s.1) a.2.1 (o_r s.1)) (updN (o_n s.1) (o_r s.1) a.2.2 (o_r s.1))
        rw [updN_e, updN_e, updN_e, updN_e]; exact hb
      · intro z
        have z : updN (o_k s.1) (o_r s.1) k (o_r s.1) = 18 ∨ updN (o_k s.1) (o_r s.1) k (o_r s.1) = 20 := z
        rw [updN_e] at z
        have z := opn_e.mpr z
        refine Or.inl ⟨s.2.2, ?_, ?_⟩
        · show s.2.2 < (if opn k = true then s.2.2 + 1 else s.2.2)
          rw [if_pos z]; omega
        · show (if opn k = true then updN s.2.1 s.2.2 (o_r s.1) else s.2.1) s.2.2 = o_r s.1
          rw [if_pos z, updN_e]
      · intro z
        have z : updN (o_k s.1) (o_r s.1) k (o_r s.1) = 21 := z
        rw [updN_e] at z
        omega
    · obtain ⟨b1, b2, b3⟩ := b r (by omega)
      have ek : o_k (addO s k a).1 r = o_k s.1 r := updN_n q
      refine ⟨?_, fun z => ?_, fun z => ?_⟩
      · show BR D (updN (o_k s.1) (o_r s.1) k r) (updN (o_w s.1) (o_r s.1) a.1 r) (updN (o_h s.1) (o_r s.1) a.2.1 r) (updN (o_n s.1) (o_r s.1) a.2.2 r)
        rw [updN_n q, updN_n q, updN_n q, updN_n q]; exact b1
      · rw [ek] at z
        rcases b2 z with ⟨i, hi, e⟩ | ⟨p1, p2, p3, p4⟩
        · refine Or.inl ⟨i, ?_, ?_⟩
          · show i < (if opn k = true then s.2.2 + 1 else s.2.2)
            split <;> omega
          · show (if opn k = true then updN s.2.1 s.2.2 (o_r s.1) else s.2.1) i = r
            split
            · rw [updN_n (by omega)]; exact e
            · exact e
        · refine Or.inr ⟨p1, ?_, ?_, p4⟩
          · show o_p s.1 r < o_r s.1 + 1; omega
          · show updN (o_k s.1) (o_r s.1) k (o_p s.1 r) = 21
            rw [updN_n (by omega)]; exact p3
      · rw [ek] at z
        obtain ⟨p1, p2, p3, p4⟩ := b3 z
        refine ⟨p1, ?_, p3, fun i hi => ?_⟩
        · show updN (o_k s.1) (o_r s.1) k (o_p s.1 r) = 18 ∨ updN (o_k s.1) (o_r s.1) k (o_p s.1 r) = 20
          rw [updN_n (by omega)]; exact p2
        · show (if opn k = true then updN s.2.1 s.2.2 (o_r s.1) else s.2.1) i ≠ o_p s.1 r
          have hi : i < (if opn k = true then s.2.2 + 1 else s.2.2) := hi
          split
          · rename_i w
            rw [if_pos w] at hi
            by_cases v : i = s.2.2
            · rw [v, updN_e]; omega
            · rw [updN_n v]; exact p4 i (by omega)
          · rename_i w
            rw [if_neg w] at hi
            exact p4 i hi
  · have hi : i < (if opn k = true then s.2.2 + 1 else s.2.2) := hi
    show (if opn k = true then updN s.2.1 s.2.2 (o_r s.1) else s.2.1) i < o_r s.1 + 1 ∧ (updN (o_k s.1) (o_r s.1) k ((if opn k = true then updN s.2.1 s.2.2 (o_r s.1) else s.2.1) i) = 18 ∨ updN (o_k s.1) (o_r s.1) k ((if opn k = true then updN s.2.1 s.2.2 (o_r s.1) else s.2.1) i) = 20)
    by_cases w : opn k = true
    · rw [if_pos w] at hi ⊢
      by_cases v : i = s.2.2
      · rw [v, updN_e, updN_e]; exact ⟨by omega, opn_e.mp w⟩
      · have := c i (by omega)
        rw [updN_n v, updN_n (by omega)]; exact ⟨by omega, this.2⟩
    · rw [if_neg w] at hi ⊢
      have := c i hi
      rw [updN_n (by omega)]; exact ⟨by omega, this.2⟩
  · have hj : j < (if opn k = true then s.2.2 + 1 else s.2.2) := hj
    show (if opn k = true then updN s.2.1 s.2.2 (o_r s.1) else s.2.1) i < (if opn k = true then updN s.2.1 s.2.2 (o_r s.1) else s.2.1) j
    by_cases w : opn k = true
    · rw [if_pos w] at hj ⊢
      rw [updN_n (show i ≠ s.2.2 by omega)]
      by_cases v : j = s.2.2
      · rw [v, updN_e]; exact (c i (by omega)).1
      · rw [updN_n v]; exact d i j hij (by omega)
    · rw [if_neg w] at hj ⊢
      exact d i j hij hj
  · have hr : r + 1 < o_r s.1 + 1 := hr
    have h1 : updN (o_k s.1) (o_r s.1) k r = 20 := h1
    have h2 : updN (o_k s.1) (o_r s.1) k (r + 1) = 21 := h2
    show o_p s.1 (r + 1) = r
    rw [updN_n (by omega)] at h1
    by_cases v : r + 1 = o_r s.1
    · rw [v, updN_e] at h2; omega
    · rw [updN_n v] at h2; exact e r (by omega) h1 h2
  · have hq : updN (o_k s.1) (o_r s.1) k (o_r s.1 + 1 - 1) = 18 ∨ updN (o_k s.1) (o_r s.1) k (o_r s.1 + 1 - 1) = 20 := hq
    rw [Nat.add_sub_cancel, updN_e] at hq
    have w := opn_e.mpr hq
    show 0 < (if opn k = true then s.2.2 + 1 else s.2.2) ∧ (if opn k = true then updN s.2.1 s.2.2 (o_r s.1) else s.2.1) ((if opn k = true then s.2.2 + 1 else s.2.2) - 1) = o_r s.1 + 1 - 1
    rw [if_pos w, if_pos w, Nat.add_sub_cancel, Nat.add_sub_cancel, updN_e]
    exact ⟨by omega, rfl⟩
theorem cls_w (h : IvO D s) (h0 : 0 < s.2.2) : IvO D (clsO s) ∧ o_r (clsO s).1 = o_r s.1 + 1 ∧ s.2.1 (s.2.2 - 1) < o_r s.1 := by
  obtain ⟨⟨a1, a2, a3⟩, b, c, d, e, f⟩ := h
  obtain ⟨cb1, cb2⟩ := c (s.2.2 - 1) (by omega)
  generalize hbb : s.2.1 (s.2.2 - 1) = bb at *
  have ekr : ∀ r, r < o_r s.1 → o_k (clsO s).1 r = o_k s.1 r := fun r hr => updN_n (by omega)
  have ekn : o_k (clsO s).1 (o_r s.1) = 21 := updN_e _ _ _
  have epn : o_p (clsO s).1 (o_r s.1) = bb := by
    show updN (updN (o_p s.1) (s.2.1 (s.2.2 - 1)) (o_r s.1)) (o_r s.1) (s.2.1 (s.2.2 - 1)) (o_r s.1) = bb
    rw [updN_e, hbb]
  have epb : o_p (clsO s).1 bb = o_r s.1 := by
    show updN (updN (o_p s.1) (s.2.1 (s.2.2 - 1)) (o_r s.1)) (o_r s.1) (s.2.1 (s.2.2 - 1)) bb = o_r s.1
    rw [updN_n (by omega), hbb, updN_e]
  have epo : ∀ r, r ≠ o_r s.1 → r ≠ bb → o_p (clsO s).1 r = o_p s.1 r := fun r h1 h2 => by
    show updN (updN (o_p s.1) (s.2.1 (s.2.2 - 1)) (o_r s.1)) (o_r s.1) (s.2.1 (s.2.2 - 1)) r = o_p s.1 r
    rw [updN_n h1, hbb, updN_n h2]
  have er : o_r (clsO s).1 = o_r s.1 + 1 := rfl
  have ed : (clsO s).2.2 = s.2.2 - 1 := rfl
  have eo : (clsO s).2.1 = s.2.1 := rfl
  refine ⟨⟨⟨a1, ?_, ?_⟩, fun r hr => ?_, fun i hi => ?_, fun i j hij hj => ?_, fun r hr h1 h2 => ?_, fun _ hq => ?_⟩, rfl, cb1⟩
  · show o_r s.1 + 1 + (s.2.2 - 1) ≤ 2 * o_m s.1; omega
  · show s.2.2 - 1 ≤ 3; omega
  · rw [er] at hr
    by_cases q : r = o_r s.1
    · subst q
      refine ⟨?_, fun z => by rw [ekn] at z; omega, fun _ => ?_⟩
      · rw [ekn]; exact Or.inr (Or.inr (Or.inr (Or.inr (Or.inr (Or.inr (Or.inr (Or.inr (Or.inr rfl))))))))
      · rw [epn, epb]
        refine ⟨cb1, by rw [ekr _ cb1]; exact cb2, rfl, fun i hi => ?_⟩
        rw [ed] at hi
        rw [eo, ← hbb]
        have := d i (s.2.2 - 1) (by omega) (by omega)
        omega
    · obtain ⟨b1, b2, b3⟩ := b r (by omega)
      have ek := ekr r (by omega)
      refine ⟨by rw [ek]; exact b1, fun z => ?_, fun z => ?_⟩
      · rw [ek] at z
        by_cases qb : r = bb
        · rw [qb]
          exact Or.inr ⟨by rw [epb]; exact cb1, by rw [epb, er]; omega, by rw [epb]; exact ekn, by rw [epb]; exact epn⟩
        · rcases b2 z with ⟨i, hi, e⟩ | ⟨p1, p2, p3, p4⟩
          · refine Or.inl ⟨i, ?_, e⟩
            rw [ed]
            by_cases v : i = s.2.2 - 1
            · rw [v, hbb] at e; exact absurd e.symm qb
            · omega
          · have qn : o_p s.1 r ≠ bb := fun v => by rw [v] at p3; omega
            refine Or.inr ⟨?_, ?_, ?_, ?_⟩
            · rw [epo r q qb]; exact p1
            · rw [epo r q qb, er]; omega
            · rw [epo r q qb, ekr _ p2]; exact p3
            · rw [epo r q qb, epo _ (by omega) qn]; exact p4
      · rw [ek] at z
        have qb : r ≠ bb := fun v => by rw [v] at z; omega
        obtain ⟨p1, p2, p3, p4⟩ := b3 z
        have qn : o_p s.1 r ≠ bb := fun v => p4 (s.2.2 - 1) (by omega) (by rw [hbb, v])
        rw [epo r q qb, epo _ (by omega) qn, ekr _ (by omega)]
        exact ⟨p1, p2, p3, fun i hi => p4 i (by rw [ed] at hi; omega)⟩
  · rw [ed] at hi
    have := c i (by omega)
    rw [eo, er, ekr _ this.1]
    exact ⟨by omega, this.2⟩
  · rw [ed] at hj
    exact d i j hij (by omega)
  · rw [er] at hr
    rw [ekr r (by omega)] at h1
    by_cases v : r + 1 = o_r s.1
    · rw [v, epn]
      have := f (by omega) (Or.inr (by rw [← v]; exact h1))
      rw [this.2]; omega
    · rw [ekr _ (by omega)] at h2
      rw [epo _ v (fun w => by rw [w] at h2; omega)]
      exact e r (by omega) h1 h2
  · rw [er, Nat.add_sub_cancel, ekn] at hq
    omega
theorem sSt_w {a : OS × Nat} (h : IvO D s) (e : sSt X D s p = .ok a) : IvO D a.1 ∧ o_r a.1.1 = o_r s.1 + 1 := by
  unfold sSt at e
  split at e
  · split at e
    · cases e
    · obtain ⟨q, -, e⟩ := eb_ok e
      injection e with e
      rw [← e]
      have := cls_w h (by omega)
      exact ⟨this.1, this.2.1⟩
  · split at e
    · rename_i hk
      split at e
      · cases e
      · split at e
        · cases e
        · rename_i h1 h2
          obtain ⟨b, e1, e⟩ := eb_ok e
          obtain ⟨q, -, e⟩ := eb_ok e
          injection e with e
          rw [← e]
          exact add_w h hk (by omega) (fun z => Nat.lt_of_not_le fun w => h2 ⟨z, w⟩) (sRw_ok hk e1)
    · cases e
theorem IvO.f (h : IvO D s) (h0 : s.2.2 = 0) : WFO D s.1 := fun _ => by
  obtain ⟨⟨a1, a2, a3⟩, b, c, d, e, f⟩ := h
  refine ⟨a1, by omega, fun r hr => ?_, e⟩
  obtain ⟨b1, b2, b3⟩ := b r hr
  have b2' : (o_k s.1 r = 18 ∨ o_k s.1 r = 20) → PT s.1 r := fun z => by
    rcases b2 z with ⟨i, hi, -⟩ | q
    · omega
    · exact q
  rcases b1 with q | q | q | q | q | q | q | q | q | q
  · exact Or.inl q
  · exact Or.inr (Or.inl q)
  · exact Or.inr (Or.inr (Or.inl q))
  · exact Or.inr (Or.inr (Or.inr (Or.inl q)))
  · exact Or.inr (Or.inr (Or.inr (Or.inr (Or.inl q))))
  · exact Or.inr (Or.inr (Or.inr (Or.inr (Or.inr (Or.inl q)))))
  · have := b2' (Or.inl q.1)
    exact Or.inr (Or.inr (Or.inr (Or.inr (Or.inr (Or.inr (Or.inl ⟨q.1, q.2.1, q.2.2, this⟩))))))
  · have := b2' (Or.inr q.1)
    exact Or.inr (Or.inr (Or.inr (Or.inr (Or.inr (Or.inr (Or.inr (Or.inl ⟨q.1, q.2.1, q.2.2, this⟩)))))))
  · exact Or.inr (Or.inr (Or.inr (Or.inr (Or.inr (Or.inr (Or.inr (Or.inr (Or.inl q))))))))
  · have := b3 q
    exact Or.inr (Or.inr (Or.inr (Or.inr (Or.inr (Or.inr (Or.inr (Or.inr (Or.inr ⟨q, this.1, this.2.1, this.2.2.1⟩))))))))
def Sy : OS := (((true, 0, 0), fun _ => 0, fun _ => 0, fun _ => 0, fun _ => 0, fun _ => 0), fun _ => 0, 0)
theorem Sy_w : IvO D Sy := ⟨⟨by decide, by decide, by decide⟩, fun r hr => absurd hr (Nat.not_lt_zero _), fun r hr => absurd hr (Nat.not_lt_zero _), fun i j _ hr => absurd hr (Nat.not_lt_zero _), fun r hr => absurd hr (Nat.not_lt_zero _), fun hr => absurd hr (Nat.lt_irrefl _)⟩
theorem spOr_w : ∀ (m : Nat) (s : OS) (p : Nat) (t : OS), IvO D s → spOr X D m s p = .ok t → IvO D t ∧ t.2.2 = 0 := by
  intro m
  induction m with
  | zero => intro s p t _ e; cases e
  | succ m ih =>
    intro s p t h e
    rw [spOr] at e
    split at e
    · split at e
      · cases e
      · injection e with e; rw [← e]; exact ⟨h, by omega⟩
    · obtain ⟨a, e1, e2⟩ := eb_ok e
      exact ih _ _ _ (sSt_w h e1).1 e2
theorem EB.ts : EB (sTs X D p) := EB.i (EB.b EB.fd fun _ => EB.o) (EB.b EB.kw fun _ => EB.b EB.fd fun _ => EB.b EB.cm fun _ => EB.b EB.nu fun _ => EB.o)
theorem EB.rw {k : Nat} : EB (sRw X D k p) := EB.i (EB.b EB.fd fun _ => EB.b EB.nu fun _ => EB.b EB.nu fun _ => EB.o) (EB.i (EB.b EB.nu fun _ => EB.o) (EB.i (EB.b EB.nu fun _ => EB.o) (EB.i (EB.b EB.fd fun _ => EB.o) (EB.i (EB.b EB.fd fun _ => EB.o) (EB.i (EB.b EB.fd fun _ => EB.b EB.nu fun _ => EB.o) (EB.i EB.ts EB.o))))))
theorem EB.st : EB (sSt X D s p) := EB.i (EB.i EB.t (EB.b EB.sg fun _ => EB.o)) (EB.i (EB.i (EB.e (by decide)) (EB.i (EB.e (by decide)) (EB.b EB.rw fun _ => EB.b EB.sg fun _ => EB.o))) EB.t)
theorem EB.or : ∀ (m : Nat) (s : OS) (p : Nat), EB (spOr X D m s p) := by
  intro m
  induction m with
  | zero => intro s p; exact EB.e (by decide)
  | succ m ih => intro s p; exact EB.i (EB.i EB.t EB.o) (EB.b EB.st fun r => ih _ _)
end O
