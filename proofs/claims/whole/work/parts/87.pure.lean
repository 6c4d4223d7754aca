/-! PURE 28: calls that ask: wants, right, drags, points, rights, teeth, strikes, firstToTurn, calmed, farthest -/
section O
variable {σ τ : Mm} {v : Nat} {D : PD} {V : SD} {g : Nat → Int} {C : CT} {M : MTq} {G : GS}
def spWa (a : Int32) (G : GS) : Int32 × GS := match ix (d_v (GD G)) a with
  | none => (-1, stq 1 G)
  | some v => if clB (GD G) (GV G) v = true then (-1, stq 6 G) else (nI (wtN (GD G) (GV G) v), stq 0 G)
def spRi (a : Int32) (G : GS) : Int32 × GS := match ix (d_v (GD G)) a with
  | none => (-1, stq 1 G)
  | some v => (if rgB (GD G) (GV G) v = true then 1 else 0, stq 0 G)
def drX (v : Nat) (t : Int) (G : GS) : Int32 × GS := if egB (GD G) (GV G) (egZ (GD G) (GV G) v t) = true then (nI (moN (GD G) (egZ (GD G) (GV G) v t)), stq 0 G) else (-1, stq 7 G)
def spDr (a b : Int32) (G : GS) : Int32 × GS := match ix (d_v (GD G)) a with
  | none => (-1, stq 1 G)
  | some v => if b = 1 then drX v 1 G else if b = -1 then drX v (-1) G else (-1, stq 1 G)
def spPo (a b : Int32) (G : GS) : Int32 × GS := match ix (d_v (GD G)) a with
  | none => (-1, stq 1 G)
  | some v => match ix 401 b with
    | none => (-1, stq 1 G)
    | some q => (nI (v_pt (qnM (GD G) q (GV G, C0)).1 v), stq 0 G)
def spRs (b : Int32) (G : GS) : Int32 × GS := match ix 401 b with
  | none => (-1, stq 1 G)
  | some q => (nI (bsN (rgB (GD G) (qnM (GD G) q (GV G, C0)).1) (d_v (GD G))), stq 0 G)
def spTe (b : Int32) (G : GS) : Int32 × GS := match sx 400 b with
  | none => (-1, stq 1 G)
  | some q => (nI (qnM (GD G) q (GV G, C0)).2.1, stq 0 G)
def spSt (a b : Int32) (G : GS) : Int32 × GS := match ix (d_v (GD G)) a with
  | none => (-1, stq 1 G)
  | some v => match sx 400 b with
    | none => (-1, stq 1 G)
    | some q => (v_sk (qnM (GD G) q (GV G, C0)).1 v - v_sk (GV G) v, stq 0 G)
def oN (x : Option Nat) (G : GS) : Int32 × GS := match x with
  | none => (-1, stq 6 G)
  | some k => (nI k, stq 0 G)
def spFt (G : GS) : Int32 × GS := oN (fsF (dvB (GD G) (GV G)) (d_v (GD G))) G
def spCa (G : GS) : Int32 × GS := if cqN (GD G) 400 (GV G, C0) = 400 then (-1, stq 6 G) else (nI (cqN (GD G) 400 (GV G, C0)), stq 0 G)
def faF (D : PD) (V : SD) : Nat → Option Nat × Nat
  | 0 => (none, 0)
  | n + 1 => if (faF D V n).2 < (if clB D V n then 0 else faN D V n (v_pt V n)) then (some n, if clB D V n then 0 else faN D V n (v_pt V n)) else faF D V n
def spFa (G : GS) : Int32 × GS := oN (faF (GD G) (GV G) (d_v (GD G))).1 G
theorem OC.oN (hW : WFG G) (h : RepC σ G) {x : Option Nat} (hx : ∀ k, x = some k → k < 100) : OC (if oI x = (-1 : Int32) then (c_I (fX11_none 0 (6 : Int32) σ) (fun x9 σ7 => some (x9, σ7))) else (c_I (fX11_answer 0 (oI x) σ) (fun x6 σ4 => some (x6, σ4)))) (oN x G) := by
  cases x with
  | none => rw [show oI none = -1 from rfl, if_pos rfl]; exact OC.non hW h _
  | some k =>
    have := hx k rfl
    rw [show oI (some k) = nI k from rfl, if_neg (nI_nem (by omega))]; exact OC.ans hW h _
theorem OR.oN (hW : WFG G) (h : RepR σ G) {x : Option Nat} (hx : ∀ k, x = some k → k < 100) : OR (c_I (fX12_orNone 31 (oI x) σ) (fun x6 σ4 => some (x6, σ4))) (oN x G) := by
  unfold fX12_orNone
  cases x with
  | none => rw [show oI none = -1 from rfl, if_pos rfl]; exact OR.non hW h _
  | some k =>
    have := hx k rfl
    rw [show oI (some k) = nI k from rfl, if_neg (nI_nem (by omega))]; exact OR.ans hW h _
theorem fs_lt {p : Nat → Bool} {n k : Nat} (h : fsF p n = some k) : k < n := by
  obtain ⟨-, h2, -, -⟩ := ffF_some _ _ _ _ h
  omega
theorem wants_c (a : Int32) (hW : WFG G) (h : RepC σ G) : OC (fX11_wants 0 a σ) (spWa a G) := by
  have hd := hW.d.1
  unfold fX11_wants spWa
  rcases ix_cases (n := d_v (GD G)) (by omega) a with ⟨ei, ha⟩ | ⟨v, hv, rfl, ei⟩ <;> rw [ei]
  · rw [isVane_c0 hW h ha, c_I_s, if_pos rfl]
    exact OC.non hW h _
  · rw [isVane_c1 hW h hv, c_I_s, if_neg (by decide)]
    dsimp only
    obtain ⟨τ, p, e, wk, hc, bu, e4⟩ := won_c hW h
    have h2 : RepC τ G := h.cm hW (fun q _ h1 _ => bu q h1)
    rw [e, c_V_s]
    rw [show tg 0 14 = 10 from rfl, g_ar_n (by omega) (by decide), wk.2.2.2 v hv]
    have hwl := wt_lt (V := GV G) hW.d hv
    have hb := hW.d.2.1 v hv
    cases hcl : clB (GD G) (GV G) v
    · simp only [Bool.false_eq_true, if_false]
      rw [if_neg (nI_nem (by omega))]
      exact OC.ans hW h2 _
    · exact OC.non hW h2 _
theorem wants_r (a : Int32) (hW : WFG G) (h : RepR σ G) : OR (fX12_wants 31 a σ) (spWa a G) := by
  have hd := hW.d.1
  unfold fX12_wants spWa
  rcases ix_cases (n := d_v (GD G)) (by omega) a with ⟨ei, ha⟩ | ⟨v, hv, rfl, ei⟩ <;> rw [ei]
  · rw [isVane_r0 hW h ha, c_I_s, if_pos rfl]
    exact OR.non hW h _
  · rw [isVane_r1 hW h hv, c_I_s, if_neg (by decide)]
    dsimp only
    obtain ⟨τ, e, wk, rb, qu⟩ := bg0_r hW h
    have h2 : RepR τ G := h.rb hW rb
    rw [e, c_V_s]
    rw [isCalm_r hW.d hW.v wk hv, c_I_s]
    cases hcl : clB (GD G) (GV G) v
    · rw [if_pos (by decide), wantOf_r hW.d hW.v wk hv, c_I_s]
      exact OR.ans hW h2 _
    · exact OR.non hW h2 _
theorem right_c (a : Int32) (hW : WFG G) (h : RepC σ G) : OC (fX11_right 0 a σ) (spRi a G) := by
  have hd := hW.d.1
  unfold fX11_right spRi
  rcases ix_cases (n := d_v (GD G)) (by omega) a with ⟨ei, ha⟩ | ⟨v, hv, rfl, ei⟩ <;> rw [ei]
  · rw [isVane_c0 hW h ha, c_I_s, if_pos rfl]
    exact OC.non hW h _
  · rw [isVane_c1 hW h hv, c_I_s, if_neg (by decide)]
    dsimp only
    obtain ⟨τ, p, e, wk, hc, bu, e4⟩ := won_c hW h
    have h2 : RepC τ G := h.cm hW (fun q _ h1 _ => bu q h1)
    rw [e, c_V_s]
    rw [show tg 0 14 = 10 from rfl, isRight_c hW.d hW.v wk hv, c_I_s]
    cases rgB (GD G) (GV G) v
    · exact OC.ans hW h2 _
    · exact OC.ans hW h2 _
theorem right_r (a : Int32) (hW : WFG G) (h : RepR σ G) : OR (fX12_right 31 a σ) (spRi a G) := by
  have hd := hW.d.1
  unfold fX12_right spRi
  rcases ix_cases (n := d_v (GD G)) (by omega) a with ⟨ei, ha⟩ | ⟨v, hv, rfl, ei⟩ <;> rw [ei]
  · rw [isVane_r0 hW h ha, c_I_s, if_pos rfl]
    exact OR.non hW h _
  · rw [isVane_r1 hW h hv, c_I_s, if_neg (by decide)]
    dsimp only
    obtain ⟨τ, e, wk, rb, qu⟩ := bg0_r hW h
    have h2 : RepR τ G := h.rb hW rb
    rw [e, c_V_s]
    rw [isRight_r hW.d hW.v wk hv, c_I_s]
    cases rgB (GD G) (GV G) v
    · exact OR.ans hW h2 _
    · exact OR.ans hW h2 _
theorem drX_c {t : Int} (hW : WFG G) (h : RepC σ G) (hv : v < d_v (GD G)) (ht : t = 1 ∨ t = -1) : OC (c_V (fX11_workOnNow 0 σ) (fun σ7 => c_I (fX10_engage (tg 0 14) (nI v) (iI t) σ7) (fun x11 σ9 => if x11 = 0 then (c_I (fX11_none 0 (7 : Int32) σ9) (fun x14 σ12 => some (x14, σ12))) else (r_sc σ9 (tg 0 14) 4 (fun x15 => c_I (fX11_answer 0 x15 σ9) (fun x18 σ16 => some (x18, σ16))))))) (drX v t G) := by
  obtain ⟨τ, p, e, wk, hc, bu, e4⟩ := won_c hW h
  have h2 : RepC τ G := h.cm hW (fun q _ h1 _ => bu q h1)
  rw [e, c_V_s]
  obtain ⟨ω, f, w, o1, o2, o3⟩ := engage_c hW.d hW.v wk hv ht
  have h3 : RepC ω G := h2.cm hW (fun q _ h1 _ => w.1 q h1)
  rw [show tg 0 14 = 10 from rfl, f, c_I_s, r_sc_s, o3]
  unfold drX
  cases egB (GD G) (GV G) (egZ (GD G) (GV G) v t)
  · exact OC.non hW h3 _
  · exact OC.ans hW h3 _
theorem turnedSet_l (hD : WFD D) (h : WkR σ D V) (hg : oneG g) (hS : SpR σ g) : ∀ (n i : Nat), i ≤ d_v D → d_v D - i < n → fX12_turnedSet_4 31 n (nI (bsN (fun v => g v != 0) i)) (nI i) σ = some (nI (bsN (fun v => g v != 0) (d_v D)), σ) := by
  intro n
  induction n with
  | zero => intro i _ h; omega
  | succ n ih =>
    intro i hi hn
    have hd := hD.1
    have gi := hg i
    rw [fX12_turnedSet_4, show g_ar σ 31 0 2950 (1 : Int32) = g_ar σ 31 0 2950 (nI 1) from rfl, g_ar_n (by decide) (by decide), h.1.2.1, ifle_n (by omega) (by omega)]
    by_cases c : d_v D ≤ i
    · have : i = d_v D := by omega
      subst this
      rw [if_pos c]
    · rw [if_neg c, g_ar_n (by omega) (by decide), hS _ (by omega), nI_s]
      have ih := ih (i + 1) (by omega) (by omega)
      rw [bsN] at ih
      by_cases c1 : g i = 0
      · rw [show (g i != 0) = false by simp [c1]] at ih
        rw [if_pos (by rw [c1]; rfl), show (0 : Int32) = nI 0 from rfl, or_n, Nat.or_zero]
        have e : wiN (bsN (fun v => g v != 0) i) i false = bsN (fun v => g v != 0) i := by
          apply Nat.eq_of_testBit_eq
          intro j
          rw [wiN_bit]
          by_cases cj : j = i
          · rw [if_pos cj, cj, bsN_bit]; simp
          · rw [if_neg cj]
        rw [e] at ih
        exact ih
      · rw [show (g i != 0) = true by simp [c1]] at ih
        rw [if_neg (by rw [iI_0 (by omega) (by omega)]; exact c1), sh1 (by omega), or_n]
        have e : wiN (bsN (fun v => g v != 0) i) i true = bsN (fun v => g v != 0) i ||| 2 ^ i := rfl
        rw [e] at ih
        exact ih
theorem turnedSet_r (hD : WFD D) (h : WkR σ D V) (hg : oneG g) (hS : SpR σ g) : fX12_turnedSet 31 σ = some (nI (moN D g), σ) := by
  have := hD.1
  exact turnedSet_l hD h hg hS FU 0 (by omega) (FU_gt (by omega))
theorem drX_r {t : Int} (hW : WFG G) (h : RepR σ G) (hv : v < d_v (GD G)) (ht : t = 1 ∨ t = -1) : OR (c_V (fX12_begins0 31 σ) (fun σ7 => c_I (fX12_dragsBy 31 (nI v) (iI t) σ7) (fun x11 σ9 => if x11 = 0 then (c_I (fX12_refuse 31 (7 : Int32) σ9) (fun x14 σ12 => some (x14, σ12))) else (c_I (fX12_turnedSet 31 σ9) (fun x17 σ15 => c_I (fX12_gives 31 x17 σ15) (fun x20 σ18 => some (x20, σ18))))))) (drX v t G) := by
  obtain ⟨τ, e, wk, rb, qu⟩ := bg0_r hW h
  have h2 : RepR τ G := h.rb hW rb
  rw [e, c_V_s]
  obtain ⟨ω, f, w, o1, o2⟩ := dragsBy_r hW.d hW.v wk hv ht
  have h3 : RepR ω G := h2.rb hW w.t.b
  rw [f, c_I_s, turnedSet_r hW.d (wk.rg w) o1 o2, c_I_s]
  unfold drX
  cases egB (GD G) (GV G) (egZ (GD G) (GV G) v t)
  · exact OR.non hW h3 _
  · exact OR.ans hW h3 _
theorem drags_c (a b : Int32) (hW : WFG G) (h : RepC σ G) : OC (fX11_drags 0 a b σ) (spDr a b G) := by
  have hd := hW.d.1
  unfold fX11_drags spDr
  rcases ix_cases (n := d_v (GD G)) (by omega) a with ⟨ei, ha⟩ | ⟨v, hv, rfl, ei⟩ <;> rw [ei]
  · rw [isVane_c0 hW h ha, c_I_s, if_pos rfl]
    exact OC.non hW h _
  · rw [isVane_c1 hW h hv, c_I_s, if_neg (by decide)]
    dsimp only
    by_cases c1 : b = 1
    · subst c1
      rw [if_pos rfl, if_pos rfl]
      have := drX_c (t := 1) hW h hv (by decide)
      rw [show iI 1 = (1 : Int32) from rfl] at this
      exact this
    · rw [if_neg c1, if_neg c1]
      by_cases c2 : b = -1
      · subst c2
        rw [if_pos rfl, if_pos rfl]
        have := drX_c (t := -1) hW h hv (by decide)
        rw [show iI (-1) = (-1 : Int32) from rfl] at this
        exact this
      · rw [if_neg c2, if_neg c2]
        exact OC.non hW h _
theorem drags_r (a b : Int32) (hW : WFG G) (h : RepR σ G) : OR (fX12_drags 31 a b σ) (spDr a b G) := by
  have hd := hW.d.1
  unfold fX12_drags spDr
  rcases ix_cases (n := d_v (GD G)) (by omega) a with ⟨ei, ha⟩ | ⟨v, hv, rfl, ei⟩ <;> rw [ei]
  · rw [isVane_r0 hW h ha, c_I_s, if_pos rfl]
    exact OR.non hW h _
  · rw [isVane_r1 hW h hv, c_I_s, if_neg (by decide)]
    dsimp only
    by_cases c1 : b = 1
    · subst c1
      rw [if_pos rfl, if_pos rfl]
      have := drX_r (t := 1) hW h hv (by decide)
      rw [show iI 1 = (1 : Int32) from rfl] at this
      exact this
    · rw [if_neg c1, if_neg c1]
      by_cases c2 : b = -1
      · subst c2
        rw [if_pos rfl, if_pos rfl]
        have := drX_r (t := -1) hW h hv (by decide)
        rw [show iI (-1) = (-1 : Int32) from rfl] at this
        exact this
      · rw [if_neg c2, if_neg c2]
        exact OR.non hW h _
theorem points_c (a b : Int32) (hW : WFG G) (h : RepC σ G) : OC (fX11_points 0 a b σ) (spPo a b G) := by
  have hd := hW.d.1
  unfold fX11_points spPo
  rcases ix_cases (n := d_v (GD G)) (by omega) a with ⟨ei, ha⟩ | ⟨v, hv, rfl, ei⟩ <;> rw [ei]
  · rw [isVane_c0 hW h ha, c_I_s, if_pos rfl]
    exact OC.non hW h _
  · rw [isVane_c1 hW h hv, c_I_s, if_neg (by decide)]
    dsimp only
    rcases ix_cases (n := 401) (by decide) b with ⟨ej, hb⟩ | ⟨q, hq, rfl, ej⟩ <;> rw [ej]
    · rw [isAhead_c0 hb, c_I_s, if_pos rfl]
      exact OC.non hW h _
    · rw [isAhead_c1 hq, c_I_s, if_neg (by decide)]
      dsimp only
      obtain ⟨τ, p, e, wk, hc, bu, e4⟩ := look_c hW h
      rw [e, c_V_s]
      obtain ⟨ω, f, r1, r2, r3, r4⟩ := goOn_c (M := (GV G, C0)) (Q := q) (p := p) (s := 11) (sk := -1) hW.d (by omega) hW.v wk hc (show (0 : Nat) < 500000000 by decide) (show (0 : Nat) < 500000000 by decide)
      have h2 : RepC ω G := h.cm hW (fun q _ h1 h2 => (bu q h1 h2).tr (r4 q h1 h2))
      rw [show tg 0 14 = 10 from rfl, show tg 0 15 = 11 from rfl, f, c_I_s, g_ar_n (by omega) (by decide), (r2.2.2.1.2.1 v hv).1]
      exact OC.ans hW h2 _
theorem points_r (a b : Int32) (hW : WFG G) (h : RepR σ G) : OR (fX12_points 31 a b σ) (spPo a b G) := by
  have hd := hW.d.1
  unfold fX12_points spPo
  rcases ix_cases (n := d_v (GD G)) (by omega) a with ⟨ei, ha⟩ | ⟨v, hv, rfl, ei⟩ <;> rw [ei]
  · rw [isVane_r0 hW h ha, c_I_s, if_pos rfl]
    exact OR.non hW h _
  · rw [isVane_r1 hW h hv, c_I_s, if_neg (by decide)]
    dsimp only
    rcases ix_cases (n := 401) (by decide) b with ⟨ej, hb⟩ | ⟨q, hq, rfl, ej⟩ <;> rw [ej]
    · rw [isAhead_r0 hb, c_I_s, if_pos rfl]
      exact OR.non hW h _
    · rw [isAhead_r1 hq, c_I_s, if_neg (by decide)]
      dsimp only
      obtain ⟨τ, e, wk, rb, qu, hc, -⟩ := bg1_r hW h
      rw [e, c_V_s]
      obtain ⟨ω, f, r1, r2, r3, r4, r5⟩ := goesBy_r (M := (GV G, C0)) (Q := q) hW.d (by omega) hW.v wk hc (show (0 : Nat) < 500000000 by decide) qu (by have := hW.v.2.2.2.2.2; omega)
      have h2 : RepR ω G := h.rb hW (rb.tr r4.b)
      rw [f, c_V_s, va3 hW.d r2 hv, c_I_s]
      exact OR.ans hW h2 _
theorem rights_c (b : Int32) (hW : WFG G) (h : RepC σ G) : OC (fX11_rights 0 b σ) (spRs b G) := by
  have hd := hW.d.1
  unfold fX11_rights spRs
  rcases ix_cases (n := 401) (by decide) b with ⟨ej, hb⟩ | ⟨q, hq, rfl, ej⟩ <;> rw [ej]
  · rw [isAhead_c0 hb, c_I_s, if_pos rfl]
    exact OC.non hW h _
  · rw [isAhead_c1 hq, c_I_s, if_neg (by decide)]
    dsimp only
    obtain ⟨τ, p, e, wk, hc, bu, e4⟩ := look_c hW h
    rw [e, c_V_s]
    obtain ⟨ω, f, r1, r2, r3, r4⟩ := goOn_c (M := (GV G, C0)) (Q := q) (p := p) (s := 11) (sk := -1) hW.d (by omega) hW.v wk hc (show (0 : Nat) < 500000000 by decide) (show (0 : Nat) < 500000000 by decide)
    have h2 : RepC ω G := h.cm hW (fun q _ h1 h2 => (bu q h1 h2).tr (r4 q h1 h2))
    rw [show tg 0 14 = 10 from rfl, f, c_I_s, rightSet_c hW.d r1 r2, c_I_s]
    exact OC.ans hW h2 _
theorem rights_r (b : Int32) (hW : WFG G) (h : RepR σ G) : OR (fX12_rights 31 b σ) (spRs b G) := by
  have hd := hW.d.1
  unfold fX12_rights spRs
  rcases ix_cases (n := 401) (by decide) b with ⟨ej, hb⟩ | ⟨q, hq, rfl, ej⟩ <;> rw [ej]
  · rw [isAhead_r0 hb, c_I_s, if_pos rfl]
    exact OR.non hW h _
  · rw [isAhead_r1 hq, c_I_s, if_neg (by decide)]
    dsimp only
    obtain ⟨τ, e, wk, rb, qu, hc, -⟩ := bg1_r hW h
    rw [e, c_V_s]
    obtain ⟨ω, f, r1, r2, r3, r4, r5⟩ := goesBy_r (M := (GV G, C0)) (Q := q) hW.d (by omega) hW.v wk hc (show (0 : Nat) < 500000000 by decide) qu (by have := hW.v.2.2.2.2.2; omega)
    have h2 : RepR ω G := h.rb hW (rb.tr r4.b)
    rw [f, c_V_s, rightSet_r hW.d r1 r2, c_I_s]
    exact OR.ans hW h2 _
theorem teeth_c (b : Int32) (hW : WFG G) (h : RepC σ G) : OC (fX11_teeth 0 b σ) (spTe b G) := by
  have hd := hW.d.1
  unfold fX11_teeth spTe
  rcases sx_cases (n := 400) (by decide) b with ⟨ej, hb⟩ | ⟨q, hq1, hq, rfl, ej⟩ <;> rw [ej]
  · rw [isSpan_c0 hb, c_I_s, if_pos rfl]
    exact OC.non hW h _
  · rw [isSpan_c1 hq1 hq, c_I_s, if_neg (by decide)]
    dsimp only
    obtain ⟨τ, p, e, wk, hc, bu, e4⟩ := look_c hW h
    rw [e, c_V_s]
    obtain ⟨ω, f, r1, r2, r3, r4⟩ := goOn_c (M := (GV G, C0)) (Q := q) (p := p) (s := 11) (sk := -1) hW.d (by omega) hW.v wk hc (show (0 : Nat) < 500000000 by decide) (show (0 : Nat) < 500000000 by decide)
    have h2 : RepC ω G := h.cm hW (fun q _ h1 h2 => (bu q h1 h2).tr (r4 q h1 h2))
    rw [show tg 0 14 = 10 from rfl, f, c_I_s, r_sc_s, r3.1]
    exact OC.ans hW h2 _
theorem teeth_r (b : Int32) (hW : WFG G) (h : RepR σ G) : OR (fX12_teeth 31 b σ) (spTe b G) := by
  have hd := hW.d.1
  unfold fX12_teeth spTe
  rcases sx_cases (n := 400) (by decide) b with ⟨ej, hb⟩ | ⟨q, hq1, hq, rfl, ej⟩ <;> rw [ej]
  · rw [isSpan_r0 hb, c_I_s, if_pos rfl]
    exact OR.non hW h _
  · rw [isSpan_r1 hq1 hq, c_I_s, if_neg (by decide)]
    dsimp only
    obtain ⟨τ, e, wk, rb, qu, hc, -⟩ := bg1_r hW h
    rw [e, c_V_s]
    obtain ⟨ω, f, r1, r2, r3, r4, r5⟩ := goesBy_r (M := (GV G, C0)) (Q := q) hW.d (by omega) hW.v wk hc (show (0 : Nat) < 500000000 by decide) qu (by have := hW.v.2.2.2.2.2; omega)
    have h2 : RepR ω G := h.rb hW (rb.tr r4.b)
    rw [f, c_V_s, r_sc_s, r3.1]
    exact OR.ans hW h2 _
theorem strikes_c (a b : Int32) (hW : WFG G) (h : RepC σ G) : OC (fX11_strikes 0 a b σ) (spSt a b G) := by
  have hd := hW.d.1
  unfold fX11_strikes spSt
  rcases ix_cases (n := d_v (GD G)) (by omega) a with ⟨ei, ha⟩ | ⟨v, hv, rfl, ei⟩ <;> rw [ei]
  · rw [isVane_c0 hW h ha, c_I_s, if_pos rfl]
    exact OC.non hW h _
  · rw [isVane_c1 hW h hv, c_I_s, if_neg (by decide)]
    dsimp only
    rcases sx_cases (n := 400) (by decide) b with ⟨ej, hb⟩ | ⟨q, hq1, hq, rfl, ej⟩ <;> rw [ej]
    · rw [isSpan_c0 hb, c_I_s, if_pos rfl]
      exact OC.non hW h _
    · rw [isSpan_c1 hq1 hq, c_I_s, if_neg (by decide)]
      dsimp only
      obtain ⟨τ, p, e, wk, hc, bu, e4⟩ := look_c hW h
      rw [e, c_V_s]
      obtain ⟨ω, f, r1, r2, r3, r4⟩ := goOn_c (M := (GV G, C0)) (Q := q) (p := p) (s := 11) (sk := -1) hW.d (by omega) hW.v wk hc (show (0 : Nat) < 500000000 by decide) (show (0 : Nat) < 500000000 by decide)
      have h2 : RepC ω G := h.cm hW (fun q _ h1 h2 => (bu q h1 h2).tr (r4 q h1 h2))
      rw [show tg 0 14 = 10 from rfl, show tg 0 15 = 11 from rfl, show tg 0 9 = 4 from rfl, show tg 4 1 = 6 from rfl, f, c_I_s, g_ar_n (by omega) (by decide), g_ar_n (by omega) (by decide), (r2.2.2.1.2.1 v hv).2.2, (h2.sv.2.1 v hv).2.2]
      exact OC.ans hW h2 _
theorem strikes_r (a b : Int32) (hW : WFG G) (h : RepR σ G) : OR (fX12_strikes 31 a b σ) (spSt a b G) := by
  have hd := hW.d.1
  unfold fX12_strikes spSt
  rcases ix_cases (n := d_v (GD G)) (by omega) a with ⟨ei, ha⟩ | ⟨v, hv, rfl, ei⟩ <;> rw [ei]
  · rw [isVane_r0 hW h ha, c_I_s, if_pos rfl]
    exact OR.non hW h _
  · rw [isVane_r1 hW h hv, c_I_s, if_neg (by decide)]
    dsimp only
    rcases sx_cases (n := 400) (by decide) b with ⟨ej, hb⟩ | ⟨q, hq1, hq, rfl, ej⟩ <;> rw [ej]
    · rw [isSpan_r0 hb, c_I_s, if_pos rfl]
      exact OR.non hW h _
    · rw [isSpan_r1 hq1 hq, c_I_s, if_neg (by decide)]
      dsimp only
      obtain ⟨τ, e, wk, rb, qu, hc, -⟩ := bg1_r hW h
      rw [e, c_V_s]
      obtain ⟨ω, f, r1, r2, r3, r4, r5⟩ := goesBy_r (M := (GV G, C0)) (Q := q) hW.d (by omega) hW.v wk hc (show (0 : Nat) < 500000000 by decide) qu (by have := hW.v.2.2.2.2.2; omega)
      have h2 : RepR ω G := h.rb hW (rb.tr r4.b)
      rw [va5 hW.d wk hv, c_I_s, f, c_V_s, va5 hW.d r2 hv, c_I_s]
      exact OR.ans hW h2 _
theorem fd_l {p s : Nat} (hD : WFD D) (hV : WFV D V) : ∀ (n i : Nat) (σ : Mm), i ≤ d_v D → d_v D - i < n → WkC σ p s D V → ∃ τ, fX10_firstDriven_2 10 n (nI i) σ = some (oI (ffF (dvB D V) (d_v D - i) i), τ) ∧ W10 σ τ := by
  intro n
  induction n with
  | zero => intro i σ _ h; omega
  | succ n ih =>
    intro i σ hi hn h
    have hd := hD.1
    have h' := h
    obtain ⟨⟨e1, e2, k1, k2⟩, hp, hs, hw⟩ := h
    rw [fX10_firstDriven_2, r_rf_e e1 k1, r_sc_s, hp.1.2.1, ifle_n (by omega) (by omega)]
    by_cases c : d_v D ≤ i
    · have : i = d_v D := by omega
      subst this
      rw [if_pos c, Nat.sub_self]
      exact ⟨σ, rfl, W10.rf⟩
    · obtain ⟨τ, e, w, -⟩ := isDriven_c hD hV h' (show i < d_v D by omega)
      rw [if_neg c, e, c_I_s, nI_s, show d_v D - i = (d_v D - (i + 1)) + 1 by omega, ffF]
      cases dvB D V i
      · simp only [Bool.false_eq_true, if_false, if_true, eq_self]
        obtain ⟨ω, f, w2⟩ := ih (i + 1) τ (by omega) (by omega) (h'.w10 w)
        exact ⟨ω, f, w.tr w2⟩
      · simp only [if_true]
        rw [if_neg (by decide)]
        exact ⟨τ, rfl, w⟩
theorem firstDriven_c {p s : Nat} (hD : WFD D) (hV : WFV D V) (h : WkC σ p s D V) : ∃ τ, fX10_firstDriven 10 σ = some (oI (fsF (dvB D V) (d_v D)), τ) ∧ W10 σ τ := by
  have := hD.1
  exact fd_l hD hV FU 0 σ (by omega) (FU_gt (by omega)) h
theorem firstToTurn_c (hW : WFG G) (h : RepC σ G) : OC (fX11_firstToTurn 0  σ) (spFt  G) := by
  have hd := hW.d.1
  unfold fX11_firstToTurn spFt
  obtain ⟨τ, p, e, wk, hc, bu, e4⟩ := won_c hW h
  have h2 : RepC τ G := h.cm hW (fun q _ h1 _ => bu q h1)
  rw [e, c_V_s]
  obtain ⟨ω, f, w⟩ := firstDriven_c hW.d hW.v wk
  have h3 : RepC ω G := h2.cm hW (fun q _ h1 _ => w.1 q h1)
  rw [show tg 0 14 = 10 from rfl, f, c_I_s]
  exact OC.oN hW h3 (fun k hk => by have := fs_lt hk; omega)
theorem firstToTurn_r (hW : WFG G) (h : RepR σ G) : OR (fX12_firstToTurn 31  σ) (spFt  G) := by
  have hd := hW.d.1
  unfold fX12_firstToTurn spFt
  obtain ⟨τ, e, wk, rb, qu, hc, -⟩ := bg1_r hW h
  rw [e, c_V_s]
  obtain ⟨ω, f, r1, r2, r3, r4, r5, r6⟩ := quarterGoes_r (M := (GV G, C0)) hW.d hW.v wk hc (show 0 + 64 < 1000000000 by decide) qu (by have := hW.v.2.2.2.2.2; omega)
  rw [f, c_I_s]
  have hp : ∀ (x : Int32), (x = 0 ∨ x = 1) → p_bz ω 31 29 x (fun σ6 => r_sc σ6 31 28 (fun x7 => c_I (fX12_orNone 31 x7 σ6) (fun x10 σ8 => some (x10, σ8)))) = c_I (fX12_orNone 31 (oI (fsF (dvB (GD G) (GV G)) (d_v (GD G)))) (w_sc ω 31 29 x)) (fun x10 σ8 => some (x10, σ8)) := fun x hx => by
    unfold p_bz
    rw [if_pos hx]
    show r_sc (w_sc ω 31 29 x) 31 28 (fun x7 => c_I (fX12_orNone 31 x7 (w_sc ω 31 29 x)) (fun x10 σ8 => some (x10, σ8))) = _
    rw [r_sc_s, m_sc_sc, if_neg (by decide), r5]
  rw [hp _ (by cases (fsF (dvB (GD G) (GV G)) (d_v (GD G))).isNone <;> simp)]
  refine OR.oN hW (h.rb hW ((rb.tr r4.b).tr (RT.s (by omega) (by omega)).b)) (fun k hk => by have := fs_lt hk; omega)
theorem cq_le : ∀ (n : Nat) (M : MTq), cqN D n M ≤ n := by
  intro n
  induction n with
  | zero => intro M; exact Nat.le_refl _
  | succ n ih =>
    intro M
    rw [cqN]
    split
    · omega
    · have := ih (qtM D M); omega
theorem calmed_c (hW : WFG G) (h : RepC σ G) : OC (fX11_calmed 0  σ) (spCa  G) := by
  have hd := hW.d.1
  unfold fX11_calmed spCa
  obtain ⟨τ, p, e, wk, hc, bu, e4⟩ := look_c hW h
  unfold fX11_quartersToCalm
  rw [e, c_V_s]
  obtain ⟨ω, f, r1, r2, r3, r4⟩ := goOn_c (M := (GV G, C0)) (Q := 400) (p := p) (s := 11) (sk := -1) hW.d (by decide) hW.v wk hc (show (0 : Nat) < 500000000 by decide) (show (0 : Nat) < 500000000 by decide)
  have h2 : RepC ω G := h.cm hW (fun q _ h1 h2 => (bu q h1 h2).tr (r4 q h1 h2))
  rw [show tg 0 14 = 10 from rfl, show (400 : Int32) = nI 400 from rfl, f, c_I_s, ife_n (by have := cq_le (D := GD G) 400 (GV G, C0); omega) (by decide)]
  by_cases c : cqN (GD G) 400 (GV G, C0) = 400
  · rw [if_pos c, if_pos c, c_I_s, if_pos rfl]
    exact OC.non hW h2 _
  · have := cq_le (D := GD G) 400 (GV G, C0)
    rw [if_neg c, if_neg c, c_I_s, if_neg (nI_nem (by omega))]
    exact OC.ans hW h2 _
theorem ca_l (hD : WFD D) : ∀ (n i q : Nat) (M : MTq) (σ : Mm), i ≤ 400 → 400 - i < n → WFV D M.1 → WkR σ D M.1 → CtR σ M.2 → M.2.2.1 + 64 * (400 - i) < 1000000000 → m_ar σ 31 0 2453 = nI q → q ≤ 9999 → ∃ τ, fX12_calmed_6 31 n (nI i) σ = (if cqN D (400 - i) M = 400 - i then c_I (fX12_refuse 31 6 τ) (fun x5 σ3 => some (x5, σ3)) else c_I (fX12_gives 31 (nI (i + cqN D (400 - i) M)) τ) (fun x11 σ9 => some (x11, σ9))) ∧ RT σ τ := by
  intro n
  induction n with
  | zero => intro i q M σ _ h; omega
  | succ n ih =>
    intro i q M σ hi hn hV h hc hC hq hq9
    rw [fX12_calmed_6, ln_400, ifle_n (by decide) (by omega)]
    by_cases c : 400 ≤ i
    · have : i = 400 := by omega
      subst this
      rw [if_pos c]
      refine ⟨σ, ?_, RT.rf⟩
      rw [Nat.sub_self, if_pos (show cqN D 0 M = 0 from rfl)]
    · obtain ⟨τ, e, r1, r2, r3, r4, r5, r6⟩ := quarterGoes_r hD hV h hc (by omega) hq hq9
      have hle := qtM_le (M := M) hD
      have hiff := qt_iff (D := D) (M := M)
      rw [if_neg c, e, c_I_s, nI_s, show 400 - i = (400 - (i + 1)) + 1 by omega, cqN]
      cases hx : fsF (dvB D M.1) (d_v D) with
      | none =>
        rw [if_pos (hiff.mpr hx), if_pos (show (if (none : Option Nat).isNone = true then (0 : Int32) else 1) = 0 from rfl)]
        refine ⟨τ, ?_, r4⟩
        rw [if_neg (by omega)]; rfl
      | some j =>
        have hne : ¬ (qtM D M).2.1 = M.2.1 := fun z => by rw [hiff.mp z] at hx; cases hx
        have h01 : ¬ (if (some j : Option Nat).isNone = true then (0 : Int32) else 1) = 0 := by show ¬ (1 : Int32) = 0; decide
        rw [if_neg h01, if_neg hne]
        obtain ⟨ω, f, w⟩ := ih (i + 1) (min (q + 1) 9999) (qtM D M) τ (by omega) (by omega) r1 r2 r3 (by omega) r6 (by omega)
        refine ⟨ω, ?_, r4.tr w⟩
        rw [f, show i + 1 + cqN D (400 - (i + 1)) (qtM D M) = i + (cqN D (400 - (i + 1)) (qtM D M) + 1) by omega]
        by_cases c2 : cqN D (400 - (i + 1)) (qtM D M) = 400 - (i + 1)
        · rw [if_pos c2, if_pos (by omega)]
        · rw [if_neg c2, if_neg (by omega)]
theorem calmed_r (hW : WFG G) (h : RepR σ G) : OR (fX12_calmed 31  σ) (spCa  G) := by
  have hd := hW.d.1
  unfold fX12_calmed spCa
  obtain ⟨τ, e, wk, rb, qu, hc, -⟩ := bg1_r hW h
  rw [e, c_V_s]
  obtain ⟨ω, f, w⟩ := ca_l hW.d FU 0 (v_qu (GV G)) (GV G, C0) τ (by omega) (FU_gt (by omega)) hW.v wk hc (show 0 + 64 * (400 - 0) < 1000000000 by decide) qu (by have := hW.v.2.2.2.2.2; omega)
  have h2 : RepR ω G := h.rb hW (rb.tr w.b)
  rw [show (0 : Int32) = nI 0 from rfl, f, Nat.zero_add, show 400 - 0 = 400 from rfl]
  by_cases c : cqN (GD G) 400 (GV G, C0) = 400
  · rw [if_pos c, if_pos c]
    exact OR.non hW h2 _
  · rw [if_neg c, if_neg c]
    exact OR.ans hW h2 _
theorem fa_b : ∀ n, (∀ k, (faF D V n).1 = some k → k < n) := by
  intro n
  induction n with
  | zero => intro k h; cases h
  | succ n ih =>
    intro k h
    rw [faF] at h
    by_cases c : (faF D V n).2 < (if clB D V n then 0 else faN D V n (v_pt V n))
    · rw [if_pos c] at h
      cases h; omega
    · rw [if_neg c] at h
      have := ih k h; omega
theorem fa_2 (hD : WFD D) : ∀ n, n ≤ d_v D → (faF D V n).2 ≤ 60 := by
  intro n
  induction n with
  | zero => intro _; exact Nat.zero_le _
  | succ n ih =>
    intro hn
    have hb := hD.2.1 n (by omega)
    have ih := ih (by omega)
    rw [faF]
    by_cases c : (faF D V n).2 < (if clB D V n then 0 else faN D V n (v_pt V n))
    · rw [if_pos c]
      show (if clB D V n then 0 else faN D V n (v_pt V n)) ≤ 60
      unfold faN
      split <;> omega
    · rw [if_neg c]; exact ih
theorem far_lc {p : Nat} (hW : WFG G) (hR : RepC σ G) (h : WkC σ p 6 (GD G) (GV G)) (e4 : m_rf σ 4 0 = some p) : ∀ (n i : Nat), i ≤ d_v (GD G) → d_v (GD G) - i < n → fX11_farthest_10 0 n (oI (faF (GD G) (GV G) i).1) (nI (faF (GD G) (GV G) i).2) (nI i) σ = fX11_farthest_51 0 (oI (faF (GD G) (GV G) (d_v (GD G))).1) σ := by
  intro n
  induction n with
  | zero => intro i _ h; omega
  | succ n ih =>
    intro i hi hn
    have hd := hW.d.1
    have h' := h
    obtain ⟨⟨e1, e2, k1, k2⟩, hp, hs, hw⟩ := h
    rw [fX11_farthest_10, show tg 0 9 = 4 from rfl, r_rf_e e4 k1, r_sc_s, hp.1.2.1, ifle_n (by omega) (by omega)]
    by_cases c : d_v (GD G) ≤ i
    · have : i = d_v (GD G) := by omega
      subst this
      rw [if_pos c]
    · have hv : i < d_v (GD G) := by omega
      have hb := hW.d.2.1 i hv
      have h2 := fa_2 (V := GV G) hW.d i (by omega)
      have ih := ih (i + 1) (by omega) (by omega)
      have h6 : (if clB (GD G) (GV G) i then 0 else faN (GD G) (GV G) i (v_pt (GV G) i)) ≤ 60 := by unfold faN; split <;> omega
      rw [faF] at ih
      rw [if_neg c, show tg 0 14 = 10 from rfl, gapNow_c hW.d hW.v h' hv, c_I_s, nI_s, ifle_n (by omega) (by omega)]
      by_cases c2 : (faF (GD G) (GV G) i).2 < (if clB (GD G) (GV G) i then 0 else faN (GD G) (GV G) i (v_pt (GV G) i))
      · rw [if_pos c2] at ih
        rw [if_neg (by omega)]
        exact ih
      · rw [if_neg c2] at ih
        rw [if_pos (by omega)]
        exact ih
theorem far_lr (hD : WFD D) (hV : WFV D V) (h : WkR σ D V) : ∀ (n i : Nat), i ≤ d_v D → d_v D - i < n → fX12_farthest_10 31 n (oI (faF D V i).1) (nI (faF D V i).2) (nI i) σ = c_I (fX12_orNone 31 (oI (faF D V (d_v D)).1) σ) (fun x6 σ4 => some (x6, σ4)) := by
  intro n
  induction n with
  | zero => intro i _ h; omega
  | succ n ih =>
    intro i hi hn
    have hd := hD.1
    rw [fX12_farthest_10, show g_ar σ 31 0 2950 (1 : Int32) = g_ar σ 31 0 2950 (nI 1) from rfl, g_ar_n (by decide) (by decide), h.1.2.1, ifle_n (by omega) (by omega)]
    by_cases c : d_v D ≤ i
    · have : i = d_v D := by omega
      subst this
      rw [if_pos c]
    · have hv : i < d_v D := by omega
      have hb := hD.2.1 i hv
      have hpt := hV.2.1 i hv
      have hwl := wt_lt (V := V) hD hv
      have h2 := fa_2 (V := V) hD i (by omega)
      have ih := ih (i + 1) (by omega) (by omega)
      rw [faF] at ih
      rw [if_neg c, isRight_r hD hV h hv, c_I_s, nI_s]
      cases hr : rgB D V i
      · have hcl : clB D V i = false := by
          unfold rgB at hr
          cases hx : clB D V i
          · rfl
          · rw [hx] at hr; simp at hr
        have h6 : faN D V i (v_pt V i) ≤ 60 := by unfold faN; omega
        rw [hcl] at ih
        simp only [Bool.false_eq_true, if_false] at ih
        rw [if_pos (by decide), va3 hD h hv, c_I_s, farFrom_r hD hV h hv hpt, c_I_s, ifl_n (by omega) (by omega)]
        by_cases c2 : (faF D V i).2 < faN D V i (v_pt V i)
        · rw [if_pos c2] at ih ⊢
          exact ih
        · rw [if_neg c2] at ih ⊢
          exact ih
      · have hz : (if clB D V i then 0 else faN D V i (v_pt V i)) = 0 := by
          unfold rgB at hr
          cases hx : clB D V i
          · rw [hx] at hr
            simp at hr
            rw [if_neg (by decide), hr, fa_e hwl hwl]
            simp
          · rfl
        rw [hz, if_neg (Nat.not_lt_zero _)] at ih
        rw [if_neg (by decide), if_neg (nI_neg0 (by omega))]
        exact ih
theorem farthest_c (hW : WFG G) (h : RepC σ G) : OC (fX11_farthest 0  σ) (spFa  G) := by
  have hd := hW.d.1
  unfold fX11_farthest spFa
  obtain ⟨τ, p, e, wk, hc, bu, e4⟩ := won_c hW h
  have h2 : RepC τ G := h.cm hW (fun q _ h1 _ => bu q h1)
  rw [e, c_V_s]
  have e5 := far_lc hW h2 wk e4 FU 0 (by omega) (FU_gt (by omega))
  refine Eq.mpr (congrArg (fun z => OC z _) e5) ?_
  exact OC.oN hW h2 (fun k hk => by have := fa_b _ k hk; omega)
theorem farthest_r (hW : WFG G) (h : RepR σ G) : OR (fX12_farthest 31  σ) (spFa  G) := by
  have hd := hW.d.1
  unfold fX12_farthest spFa
  obtain ⟨τ, e, wk, rb, qu⟩ := bg0_r hW h
  have h2 : RepR τ G := h.rb hW rb
  rw [e, c_V_s]
  have e5 := far_lr hW.d hW.v wk FU 0 (by omega) (FU_gt (by omega))
  refine Eq.mpr (congrArg (fun z => OR z _) e5) ?_
  exact OR.oN hW h2 (fun k hk => by have := fa_b _ k hk; omega)
theorem wants_s (a : Int32) (σ : Mm) (h : Rel σ) : ok (fX11_wants 0 a σ) (fun q => ok (fX12_wants 31 a q.2) (fun q' => q'.1 = q.1 ∧ Rel q'.2)) :=
  simS (fc := fX11_wants 0 a) (fr := fX12_wants 31 a) (ks := [0, 1, 2, 3, 4, 5, 6, 7, 8, 9, 10, 11]) (by decide) (spWa a) (fun σ G => wants_c a) (fun σ G => wants_r a) (fun G hW => by unfold spWa; repeat (first | exact hW | split)) (fun σ x τ ee => F_sub (frX11_wants 0 a (by decide) σ ee) (by decide)) (fun σ x τ ee => F_sub (frX12_wants 31 a (by decide) σ ee) (by decide)) σ h
theorem right_s (a : Int32) (σ : Mm) (h : Rel σ) : ok (fX11_right 0 a σ) (fun q => ok (fX12_right 31 a q.2) (fun q' => q'.1 = q.1 ∧ Rel q'.2)) :=
  simS (fc := fX11_right 0 a) (fr := fX12_right 31 a) (ks := [0, 1, 2, 3, 4, 5, 6, 7, 8, 9, 10, 11]) (by decide) (spRi a) (fun σ G => right_c a) (fun σ G => right_r a) (fun G hW => by unfold spRi; repeat (first | exact hW | split)) (fun σ x τ ee => F_sub (frX11_right 0 a (by decide) σ ee) (by decide)) (fun σ x τ ee => F_sub (frX12_right 31 a (by decide) σ ee) (by decide)) σ h
theorem drags_s (a : Int32) (b : Int32) (σ : Mm) (h : Rel σ) : ok (fX11_drags 0 a b σ) (fun q => ok (fX12_drags 31 a b q.2) (fun q' => q'.1 = q.1 ∧ Rel q'.2)) :=
  simS (fc := fX11_drags 0 a b) (fr := fX12_drags 31 a b) (ks := [0, 1, 2, 3, 4, 5, 6, 7, 8, 9, 10, 11]) (by decide) (spDr a b) (fun σ G => drags_c a b) (fun σ G => drags_r a b) (fun G hW => by unfold spDr drX; repeat (first | exact hW | split)) (fun σ x τ ee => F_sub (frX11_drags 0 a b (by decide) σ ee) (by decide)) (fun σ x τ ee => F_sub (frX12_drags 31 a b (by decide) σ ee) (by decide)) σ h
theorem points_s (a : Int32) (b : Int32) (σ : Mm) (h : Rel σ) : ok (fX11_points 0 a b σ) (fun q => ok (fX12_points 31 a b q.2) (fun q' => q'.1 = q.1 ∧ Rel q'.2)) :=
  simS (fc := fX11_points 0 a b) (fr := fX12_points 31 a b) (ks := [0, 1, 2, 3, 4, 5, 6, 7, 8, 9, 10, 11]) (by decide) (spPo a b) (fun σ G => points_c a b) (fun σ G => points_r a b) (fun G hW => by unfold spPo; repeat (first | exact hW | split)) (fun σ x τ ee => F_sub (frX11_points 0 a b (by decide) σ ee) (by decide)) (fun σ x τ ee => F_sub (frX12_points 31 a b (by decide) σ ee) (by decide)) σ h
theorem rights_s (b : Int32) (σ : Mm) (h : Rel σ) : ok (fX11_rights 0 b σ) (fun q => ok (fX12_rights 31 b q.2) (fun q' => q'.1 = q.1 ∧ Rel q'.2)) :=
  simS (fc := fX11_rights 0 b) (fr := fX12_rights 31 b) (ks := [0, 1, 2, 3, 4, 5, 6, 7, 8, 9, 10, 11]) (by decide) (spRs b) (fun σ G => rights_c b) (fun σ G => rights_r b) (fun G hW => by unfold spRs; repeat (first | exact hW | split)) (fun σ x τ ee => F_sub (frX11_rights 0 b (by decide) σ ee) (by decide)) (fun σ x τ ee => F_sub (frX12_rights 31 b (by decide) σ ee) (by decide)) σ h
theorem teeth_s (b : Int32) (σ : Mm) (h : Rel σ) : ok (fX11_teeth 0 b σ) (fun q => ok (fX12_teeth 31 b q.2) (fun q' => q'.1 = q.1 ∧ Rel q'.2)) :=
  simS (fc := fX11_teeth 0 b) (fr := fX12_teeth 31 b) (ks := [0, 1, 2, 3, 4, 5, 6, 7, 8, 9, 10, 11]) (by decide) (spTe b) (fun σ G => teeth_c b) (fun σ G => teeth_r b) (fun G hW => by unfold spTe; repeat (first | exact hW | split)) (fun σ x τ ee => F_sub (frX11_teeth 0 b (by decide) σ ee) (by decide)) (fun σ x τ ee => F_sub (frX12_teeth 31 b (by decide) σ ee) (by decide)) σ h
theorem strikes_s (a : Int32) (b : Int32) (σ : Mm) (h : Rel σ) : ok (fX11_strikes 0 a b σ) (fun q => ok (fX12_strikes 31 a b q.2) (fun q' => q'.1 = q.1 ∧ Rel q'.2)) :=
  simS (fc := fX11_strikes 0 a b) (fr := fX12_strikes 31 a b) (ks := [0, 1, 2, 3, 4, 5, 6, 7, 8, 9, 10, 11]) (by decide) (spSt a b) (fun σ G => strikes_c a b) (fun σ G => strikes_r a b) (fun G hW => by unfold spSt; repeat (first | exact hW | split)) (fun σ x τ ee => F_sub (frX11_strikes 0 a b (by decide) σ ee) (by decide)) (fun σ x τ ee => F_sub (frX12_strikes 31 a b (by decide) σ ee) (by decide)) σ h
theorem firstToTurn_s  (σ : Mm) (h : Rel σ) : ok (fX11_firstToTurn 0  σ) (fun q => ok (fX12_firstToTurn 31  q.2) (fun q' => q'.1 = q.1 ∧ Rel q'.2)) :=
  simS (fc := fX11_firstToTurn 0 ) (fr := fX12_firstToTurn 31 ) (ks := [0, 1, 2, 3, 4, 5, 6, 7, 8, 9, 10, 11]) (by decide) (spFt ) (fun σ G hW h => firstToTurn_c hW h) (fun σ G hW h => firstToTurn_r hW h) (fun G hW => by unfold spFt oN; repeat (first | exact hW | split)) (fun σ x τ ee => F_sub (frX11_firstToTurn 0  (by decide) σ ee) (by decide)) (fun σ x τ ee => F_sub (frX12_firstToTurn 31  (by decide) σ ee) (by decide)) σ h
theorem calmed_s  (σ : Mm) (h : Rel σ) : ok (fX11_calmed 0  σ) (fun q => ok (fX12_calmed 31  q.2) (fun q' => q'.1 = q.1 ∧ Rel q'.2)) :=
  simS (fc := fX11_calmed 0 ) (fr := fX12_calmed 31 ) (ks := [0, 1, 2, 3, 4, 5, 6, 7, 8, 9, 10, 11]) (by decide) (spCa ) (fun σ G hW h => calmed_c hW h) (fun σ G hW h => calmed_r hW h) (fun G hW => by unfold spCa; repeat (first | exact hW | split)) (fun σ x τ ee => F_sub (frX11_calmed 0  (by decide) σ ee) (by decide)) (fun σ x τ ee => F_sub (frX12_calmed 31  (by decide) σ ee) (by decide)) σ h
theorem farthest_s  (σ : Mm) (h : Rel σ) : ok (fX11_farthest 0  σ) (fun q => ok (fX12_farthest 31  q.2) (fun q' => q'.1 = q.1 ∧ Rel q'.2)) :=
  simS (fc := fX11_farthest 0 ) (fr := fX12_farthest 31 ) (ks := [0, 1, 2, 3, 4, 5, 6, 7, 8, 9, 10, 11]) (by decide) (spFa ) (fun σ G hW h => farthest_c hW h) (fun σ G hW h => farthest_r hW h) (fun G hW => by unfold spFa oN; repeat (first | exact hW | split)) (fun σ x τ ee => F_sub (frX11_farthest 0  (by decide) σ ee) (by decide)) (fun σ x τ ee => F_sub (frX12_farthest 31  (by decide) σ ee) (by decide)) σ h
end O
