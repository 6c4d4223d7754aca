/-! PURE 35: sway, common, ratio -/
/-- a shaft's slack makes a way shorter; all shafts; rounds -/
def sw1 (D : PD) (s : Nat) (x : Nat → Nat) : Nat → Nat := if x (d_fs D s) + d_sl D s < x (d_sn D s) then (fun u => if u = d_sn D s then x (d_fs D s) + d_sl D s else x u) else if x (d_sn D s) + d_sl D s < x (d_fs D s) then (fun u => if u = d_fs D s then x (d_sn D s) + d_sl D s else x u) else x
def swS (D : PD) (L : Nat) : Nat → (Nat → Nat) → (Nat → Nat)
  | 0, x => x
  | n + 1, x => if L.testBit n = true then swS D L n x else sw1 D n (swS D L n x)
def swR (D : PD) (L : Nat) : Nat → (Nat → Nat) → (Nat → Nat)
  | 0, x => x
  | n + 1, x => swR D L n (swS D L (d_s D) x)
def sw0 (a : Nat) : Nat → Nat := fun u => if u = a then 0 else 1000
section O
variable {σ τ ω : Mm} {v : Nat} {D : PD} {V : SD} {J : JT} {G : GS} {L p : Nat} {x : Nat → Nat}
theorem sw1_le {s : Nat} (h : ∀ u, x u ≤ 1000) : ∀ u, sw1 D s x u ≤ 1000 := by
  intro u
  have h1 := h (d_fs D s)
  have h2 := h (d_sn D s)
  have h3 := h u
  unfold sw1
  split
  · dsimp only; split <;> omega
  · split
    · dsimp only; split <;> omega
    · exact h3
theorem swS_le (h : ∀ u, x u ≤ 1000) : ∀ n, ∀ u, swS D L n x u ≤ 1000 := by
  intro n
  induction n with
  | zero => exact h
  | succ n ih =>
    rw [swS]
    split
    · exact ih
    · exact sw1_le ih
def SwC (σ : Mm) (x : Nat → Nat) : Prop := ∀ u, u < 8 → m_ar σ 12 2 u = nI (x u)
theorem ss_l (hD : WFD D) (hL : L < 2147483648) (hx : ∀ u, x u ≤ 1000) : ∀ (n i : Nat) (σ : Mm), i ≤ d_s D → d_s D - i < n → JwC σ p L D → SwC σ (swS D L i x) → ∃ τ, fX0_spreadSlack_2 12 n (nI i) σ = some τ ∧ SwC τ (swS D L (d_s D) x) ∧ W12 σ τ := by
  intro n
  induction n with
  | zero => intro i σ _ h; omega
  | succ n ih =>
    intro i σ hi hn hw h
    have hd := hD.1
    have hw' := hw
    obtain ⟨e0, k0, eL, hp⟩ := hw
    have n1 : p ≠ 12 := fun e => by rw [e] at k0; revert k0; decide
    rw [fX0_spreadSlack_2, r_rf_e e0 k0, r_sc_s, hp.1.2.2, ifle_n (by omega) (by omega)]
    by_cases c : d_s D ≤ i
    · have : i = d_s D := by omega
      subst this
      rw [if_pos c]
      exact ⟨σ, rfl, h, W12.rf⟩
    · have hk : i < d_s D := by omega
      have hbb := hD.2.2 i hk
      obtain ⟨f1, f2, f3, f4⟩ := hp.2.2.1 i hk
      have hx2 := swS_le (D := D) (L := L) hx i
      have x1 := hx2 (d_fs D i)
      have x2 := hx2 (d_sn D i)
      rw [if_neg c, r_sc_s, eL, has_e hL (by omega), c_I_s, nI_s]
      by_cases cl : L.testBit i = true
      · rw [if_pos cl, if_neg (by decide)]
        exact ih (i + 1) σ (by omega) (by omega) hw' (by rw [swS, if_pos cl]; exact h)
      · rw [if_neg cl, if_pos rfl, r_rf_e e0 k0, g_ar_n (by omega) (by decide), f1, r_rf_e e0 k0, g_ar_n (by omega) (by decide), f2, g_ar_n (by omega) (by decide), h _ (by omega), g_ar_n (by omega) (by decide), h _ (by omega), r_rf_e e0 k0, g_ar_n (by omega) (by decide), f4, nI_ad, ifl_n (by omega) (by omega)]
        generalize hy : swS D L i x = y at *
        obtain ⟨a', ha'⟩ : ∃ a', a' = if y (d_sn D i) + d_sl D i < y (d_fs D i) then y (d_sn D i) + d_sl D i else y (d_fs D i) := ⟨_, rfl⟩
        have ea : (if y (d_sn D i) + d_sl D i < y (d_fs D i) then nI (y (d_sn D i) + d_sl D i) else nI (y (d_fs D i))) = nI a' := by rw [ha']; split <;> rfl
        have ha1 : a' ≤ 1000 := by rw [ha']; split <;> omega
        have q1 : m_ar (w_ar σ 12 2 (d_fs D i) (nI a')) 12 2 (d_sn D i) = nI (y (d_sn D i)) := by rw [m_ar_ar, if_neg (by omega), h _ (by omega)]
        have q2 : m_ar (w_ar σ 12 2 (d_fs D i) (nI a')) 12 2 (d_fs D i) = nI a' := by rw [m_ar_ar, if_pos ⟨rfl, rfl, rfl⟩]
        have q3 : m_ar (w_ar σ 12 2 (d_fs D i) (nI a')) p 10 i = nI (d_sl D i) := by rw [m_ar_ar, if_neg (fun z => n1 z.1)]; exact f4
        rw [ea, s_ar_n (by omega) (by decide), g_ar_n (by omega) (by decide), q1, g_ar_n (by omega) (by decide), q2, r_rf_e (show m_rf (w_ar σ 12 2 (d_fs D i) (nI a')) 12 0 = some p from e0) k0, g_ar_n (by omega) (by decide), q3, nI_ad, ifl_n (by omega) (by omega)]
        obtain ⟨b', hb'⟩ : ∃ b', b' = if a' + d_sl D i < y (d_sn D i) then a' + d_sl D i else y (d_sn D i) := ⟨_, rfl⟩
        have eb : (if a' + d_sl D i < y (d_sn D i) then nI (a' + d_sl D i) else nI (y (d_sn D i))) = nI b' := by rw [hb']; split <;> rfl
        rw [eb, s_ar_n (by omega) (by decide)]
        have w1 : W12 σ (w_ar (w_ar σ 12 2 (d_fs D i) (nI a')) 12 2 (d_sn D i) (nI b')) := ⟨fun q hq => (BU.af hq).tr (BU.af hq), rfl, rfl⟩
        obtain ⟨τ, f, g1, g2⟩ := ih (i + 1) _ (by omega) (by omega) (hw'.w w1) (by
          rw [swS, if_neg cl, hy]
          intro u hu
          rw [m_ar_ar, m_ar_ar, h u hu]
          unfold sw1
          by_cases c1 : y (d_fs D i) + d_sl D i < y (d_sn D i)
          · rw [if_pos c1]
            rw [if_neg (by omega)] at ha'
            rw [ha', if_pos c1] at hb'
            by_cases e1 : u = d_sn D i
            · rw [if_pos ⟨rfl, rfl, e1⟩, if_pos e1, hb']
            · rw [if_neg (fun z => e1 z.2.2), if_neg e1]
              by_cases e2 : u = d_fs D i
              · rw [if_pos ⟨rfl, rfl, e2⟩, ha', e2]
              · rw [if_neg (fun z => e2 z.2.2)]
          · rw [if_neg c1]
            by_cases c2 : y (d_sn D i) + d_sl D i < y (d_fs D i)
            · rw [if_pos c2] at ha' ⊢
              rw [ha', if_neg (by omega)] at hb'
              by_cases e1 : u = d_sn D i
              · have : u ≠ d_fs D i := by omega
                rw [if_pos ⟨rfl, rfl, e1⟩, if_neg this, hb', e1]
              · rw [if_neg (fun z => e1 z.2.2)]
                by_cases e2 : u = d_fs D i
                · rw [if_pos ⟨rfl, rfl, e2⟩, if_pos e2, ha']
                · rw [if_neg (fun z => e2 z.2.2), if_neg e2]
            · rw [if_neg c2] at ha' ⊢
              rw [ha', if_neg c1] at hb'
              by_cases e1 : u = d_sn D i
              · rw [if_pos ⟨rfl, rfl, e1⟩, hb', e1]
              · rw [if_neg (fun z => e1 z.2.2)]
                by_cases e2 : u = d_fs D i
                · rw [if_pos ⟨rfl, rfl, e2⟩, ha', e2]
                · rw [if_neg (fun z => e2 z.2.2)])
        exact ⟨τ, f, g1, w1.tr g2⟩
theorem ls46 (hD : WFD D) (hL : L < 2147483648) {q : Nat} {a b c d : Int32} : ∀ (n i : Nat) (x : Nat → Nat) (σ : Mm), i ≤ 8 → 8 - i < n → (∀ u, x u ≤ 1000) → JwC σ p L D → SwC σ x → ∃ τ, fX0_leastSlack_46 12 q b c d n (nI i) σ = fX0_leastSlack_63 12 q b c d τ ∧ SwC τ (swR D L (8 - i) x) ∧ W12 σ τ := by
  intro n
  induction n with
  | zero => intro i x σ _ h; omega
  | succ n ih =>
    intro i x σ hi hn hx hw h
    have hd := hD.1
    rw [fX0_leastSlack_46, ln_8, ifle_n (by decide) (by omega)]
    by_cases cc : 8 ≤ i
    · rw [if_pos cc, show 8 - i = 0 by omega]
      exact ⟨σ, rfl, h, W12.rf⟩
    · obtain ⟨τ, e, r1, r2⟩ := ss_l hD hL hx FU 0 σ (by omega) (FU_gt (by omega)) hw h
      have e : fX0_spreadSlack 12 σ = some τ := e
      rw [if_neg cc, e, c_V_s, nI_s, show 8 - i = (8 - (i + 1)) + 1 by omega, swR]
      obtain ⟨ω, f, g1, g2⟩ := ih (i + 1) _ τ (by omega) (by omega) (swS_le hx _) (hw.w r2) r1
      exact ⟨ω, f, g1, r2.tr g2⟩
theorem ls13 {q : Nat} {b c d : Int32} : ∀ (n i : Nat) (σ : Mm), i ≤ 8 → 8 - i < n → ∃ τ, fX0_leastSlack_13 12 q b c d n (nI i) σ = fX0_leastSlack_36 12 q b c d τ ∧ (∀ u, i ≤ u → u < 8 → m_ar τ 12 2 u = nI 1000) ∧ (∀ u, u < i → m_ar τ 12 2 u = m_ar σ 12 2 u) ∧ W12 σ τ := by
  intro n
  induction n with
  | zero => intro i σ _ h; omega
  | succ n ih =>
    intro i σ hi hn
    rw [fX0_leastSlack_13, ln_8, ifle_n (by decide) (by omega)]
    by_cases cc : 8 ≤ i
    · rw [if_pos cc]
      exact ⟨σ, rfl, fun u h1 h2 => by omega, fun _ _ => rfl, W12.rf⟩
    · rw [if_neg cc, s_ar_n (by omega) (by decide), nI_s]
      obtain ⟨τ, e, r1, r2, r3⟩ := ih (i + 1) (w_ar σ 12 2 i 1000) (by omega) (by omega)
      refine ⟨τ, e, fun u h1 h2 => ?_, fun u hu => ?_, W12.tr ⟨fun q hq => BU.af hq, rfl, rfl⟩ r3⟩
      · by_cases c2 : u = i
        · rw [r2 u (by omega), m_ar_ar, if_pos ⟨rfl, rfl, c2⟩]; rfl
        · exact r1 u (by omega) h2
      · rw [r2 u (by omega), m_ar_ar, if_neg (by omega)]
theorem swR_le (hx : ∀ u, x u ≤ 1000) : ∀ n (x : Nat → Nat), (∀ u, x u ≤ 1000) → ∀ u, swR D L n x u ≤ 1000 := by
  intro n
  induction n with
  | zero => intro x h; exact h
  | succ n ih => intro x h; exact ih _ (swS_le h _)
theorem sw0_le {a : Nat} : ∀ u, sw0 a u ≤ 1000 := fun u => by unfold sw0; split <;> omega
def spSw (a b : Int32) (G : GS) : Int32 × GS := match ix (d_v (GD G)) a with
  | none => (-1, stq 1 G)
  | some v => match ix (d_v (GD G)) b with
    | none => (-1, stq 1 G)
    | some u => if swR (GD G) (v_li (GV G)) 8 (sw0 v) u = 1000 then (-1, stq 7 G) else (nI (swR (GD G) (v_li (GV G)) 8 (sw0 v) u), stq 0 G)
theorem sway_c (a b : Int32) (hW : WFG G) (h : RepC σ G) : OC (fX11_sway 0 a b σ) (spSw a b G) := by
  have hd := hW.d.1
  unfold fX11_sway spSw
  rcases ix_cases (n := d_v (GD G)) (by omega) a with ⟨ei, ha⟩ | ⟨v, hv, rfl, ei⟩ <;> rw [ei]
  · rw [isVane_c0 hW h ha, c_I_s, if_pos rfl]
    exact OC.non hW h _
  · rw [isVane_c1 hW h hv, c_I_s, if_neg (by decide)]
    dsimp only
    rcases ix_cases (n := d_v (GD G)) (by omega) b with ⟨ej, hb⟩ | ⟨u, hu, rfl, ej⟩ <;> rw [ej]
    · rw [isVane_c0 hW h hb, c_I_s, if_pos rfl]
      exact OC.non hW h _
    · rw [isVane_c1 hW h hu, c_I_s, if_neg (by decide)]
      dsimp only
      obtain ⟨p, hp8, e, hk, hp⟩ := h.pl
      have n1 : p ≠ 12 := by omega
      have hL := li_b hW.d hW.v
      rw [show tg 0 9 = 4 from rfl, show tg 4 1 = 6 from rfl, show tg 0 16 = 12 from rfl, r_rf_e e hk, r_sc_s, h.sv.2.2.2.1]
      unfold fX0_leastSlack
      rw [p_rf_s, p_sc_s]
      obtain ⟨σ1, hσ⟩ : ∃ σ1, σ1 = w_sc (w_rf σ 12 0 (some p)) 12 1 (nI (v_li (GV G))) := ⟨_, rfl⟩
      rw [← hσ]
      have b1 : ∀ q, q ≠ 12 → BU q σ σ1 := fun q hq => by rw [hσ]; exact BU.scs hq (BU.pr hq)
      have hw : JwC σ1 p (v_li (GV G)) (GD G) := ⟨by rw [hσ]; rfl, hk, by rw [hσ, m_sc_sc, if_pos ⟨rfl, rfl⟩], hp.bu (b1 p n1)⟩
      obtain ⟨τ, f, r1, r2, r3⟩ := ls13 (q := p) (b := nI (v_li (GV G))) (c := nI v) (d := nI u) FU 0 σ1 (by omega) (FU_gt (by omega))
      have f : fX0_leastSlack_13 12 p (nI (v_li (GV G))) (nI v) (nI u) FU (0 : Int32) σ1 = _ := f
      rw [f]
      unfold fX0_leastSlack_36
      rw [s_ar_n (by omega) (by decide)]
      have w2 : W12 τ (w_ar τ 12 2 v 0) := ⟨fun q hq => BU.af hq, rfl, rfl⟩
      have hs : SwC (w_ar τ 12 2 v 0) (sw0 v) := by
        intro i hi
        rw [m_ar_ar]
        unfold sw0
        by_cases c : i = v
        · rw [if_pos ⟨rfl, rfl, c⟩, if_pos c]; rfl
        · rw [if_neg (fun z => c z.2.2), if_neg c]; exact r1 i (by omega) hi
      obtain ⟨ω, f2, g1, g2⟩ := ls46 (q := p) (a := 0) (b := nI (v_li (GV G))) (c := nI v) (d := nI u) hW.d hL FU 0 (sw0 v) _ (by omega) (FU_gt (by omega)) sw0_le ((hw.w r3).w w2) hs
      have f2 : fX0_leastSlack_46 12 p (nI (v_li (GV G))) (nI v) (nI u) FU (0 : Int32) (w_ar τ 12 2 v 0) = _ := f2
      rw [f2]
      have h2 : RepC ω G := h.c12 hW (fun q hq => (((b1 q hq).tr (r3.1 q hq)).tr (w2.1 q hq)).tr (g2.1 q hq))
      have g1 : SwC ω (swR (GD G) (v_li (GV G)) 8 (sw0 v)) := g1
      have hle := swR_le (D := GD G) (L := v_li (GV G)) (x := sw0 v) sw0_le 8 (sw0 v) sw0_le u
      unfold fX0_leastSlack_63
      rw [g_ar_n (by omega) (by decide), g1 u (by omega), show (1000 : Int32) = nI 1000 from rfl, ife_n (by omega) (by decide), g_ar_n (by omega) (by decide), g1 u (by omega)]
      by_cases c : swR (GD G) (v_li (GV G)) 8 (sw0 v) u = 1000
      · rw [if_pos c, if_pos c, c_I_s, if_pos rfl]; exact OC.non hW h2 _
      · rw [if_neg c, if_neg c, c_I_s, if_neg (nI_nem (by omega))]; exact OC.ans hW h2 _
def SwR (σ : Mm) (x : Nat → Nat) : Prop := ∀ u, u < 8 → m_ar σ 31 12 u = nI (x u)
theorem sw65 (hD : WFD D) (hL : L < 2147483648) (hx : ∀ u, x u ≤ 1000) {a b r : Int32} {K : Int32 → Mm → Option (Int32 × Mm)} : ∀ (n i : Nat) (σ : Mm), i ≤ d_s D → d_s D - i < n → JwR σ L D → SwR σ (swS D L i x) → ∃ τ, fX12_sway_65 31 a b K n r (nI i) σ = K (r + 1) τ ∧ SwR τ (swS D L (d_s D) x) ∧ RJ σ τ := by
  intro n
  induction n with
  | zero => intro i σ _ h; omega
  | succ n ih =>
    intro i σ hi hn hw h
    have hd := hD.1
    rw [fX12_sway_65, show g_ar σ 31 0 2950 (2 : Int32) = g_ar σ 31 0 2950 (nI 2) from rfl, g_ar_n (by decide) (by decide), hw.1, ifle_n (by omega) (by omega)]
    by_cases c : d_s D ≤ i
    · have : i = d_s D := by omega
      subst this
      rw [if_pos c]
      exact ⟨σ, rfl, h, RJ.rf⟩
    · have hk : i < d_s D := by omega
      have hbb := hD.2.2 i hk
      obtain ⟨f1, f2, f3, f4⟩ := hw.2.2 i hk
      have hx2 := swS_le (D := D) (L := L) hx i
      have x1 := hx2 (d_fs D i)
      have x2 := hx2 (d_sn D i)
      rw [if_neg c, show g_ar σ 31 0 2950 (4 : Int32) = g_ar σ 31 0 2950 (nI 4) from rfl, g_ar_n (by decide) (by decide), hw.2.1, has_n hL (by omega), nI_s]
      have ih := ih (i + 1)
      rw [swS] at ih
      cases cl : L.testBit i
      · rw [cl, if_neg (by decide)] at ih
        rw [if_neg (show ¬ (if false = true then (1 : Int32) else 0) = 1 by decide), show ((70 : Int32) + (5 : Int32) * nI i) + (0 : Int32) = nI (70 + 5 * i + 0) from ix70 i 0, show ((70 : Int32) + (5 : Int32) * nI i) + (1 : Int32) = nI (70 + 5 * i + 1) from ix70 i 1, show ((70 : Int32) + (5 : Int32) * nI i) + (3 : Int32) = nI (70 + 5 * i + 3) from ix70 i 3, g_ar_n (by omega) (by decide), f1, g_ar_n (by omega) (by decide), f2, g_ar_n (by omega) (by decide), f4, g_ar_n (by omega) (by decide), h _ (by omega), g_ar_n (by omega) (by decide), h _ (by omega), nI_ad, ifle_n (by omega) (by omega)]
        generalize hy : swS D L i x = y at *
        have s179 : ∀ τ (z : Nat → Nat), SwR τ z → z (d_fs D i) ≤ 1000 → z (d_sn D i) ≤ 1000 → fX12_sway_179 31 a b K (fX12_sway_65 31 a b K n) r (nI i) (nI (d_fs D i)) (nI (d_sn D i)) (nI (d_sl D i)) τ = if z (d_sn D i) + d_sl D i < z (d_fs D i) then fX12_sway_65 31 a b K n r (nI (i + 1)) (w_ar τ 31 12 (d_fs D i) (nI (z (d_sn D i) + d_sl D i))) else fX12_sway_65 31 a b K n r (nI (i + 1)) τ := by
          intro τ z hz z1 z2
          unfold fX12_sway_179
          rw [g_ar_n (by omega) (by decide), hz _ (by omega), g_ar_n (by omega) (by decide), hz _ (by omega), nI_ad, ifle_n (by omega) (by omega), nI_s, g_ar_n (by omega) (by decide), hz _ (by omega), nI_ad, s_ar_n (by omega) (by decide)]
          by_cases c5 : z (d_sn D i) + d_sl D i < z (d_fs D i)
          · rw [if_pos c5, if_neg (by omega)]
          · rw [if_neg c5, if_pos (by omega)]
        unfold sw1 at ih
        by_cases c1 : y (d_fs D i) + d_sl D i < y (d_sn D i)
        · rw [if_pos c1] at ih
          rw [if_neg (by omega), g_ar_n (by omega) (by decide), h _ (by omega), nI_ad, s_ar_n (by omega) (by decide)]
          have hz : SwR (w_ar σ 31 12 (d_sn D i) (nI (y (d_fs D i) + d_sl D i))) (fun u => if u = d_sn D i then y (d_fs D i) + d_sl D i else y u) := by
            intro u hu
            rw [m_ar_ar]
            by_cases e1 : u = d_sn D i
            · rw [if_pos ⟨rfl, rfl, e1⟩]; dsimp only; rw [if_pos e1]
            · rw [if_neg (fun z => e1 z.2.2)]; dsimp only; rw [if_neg e1]; exact h u hu
          have := s179 _ _ hz (by rw [if_neg (by omega)]; exact x1) (by rw [if_pos rfl]; omega)
          rw [if_pos rfl, if_neg (show ¬ d_fs D i = d_sn D i from hbb.2.2.1), if_neg (by omega)] at this
          rw [this]
          obtain ⟨τ, f, g1, g2⟩ := ih _ (by omega) (by omega) (hw.w (RJ.w (by omega))) hz
          exact ⟨τ, f, g1, (RJ.w (by omega)).tr g2⟩
        · rw [if_neg c1] at ih
          rw [if_pos (by omega), s179 σ y h x1 x2]
          by_cases c2 : y (d_sn D i) + d_sl D i < y (d_fs D i)
          · rw [if_pos c2] at ih ⊢
            obtain ⟨τ, f, g1, g2⟩ := ih (w_ar σ 31 12 (d_fs D i) (nI (y (d_sn D i) + d_sl D i))) (by omega) (by omega) (hw.w (RJ.w (by omega))) (fun u hu => by
              rw [m_ar_ar]
              by_cases e1 : u = d_fs D i
              · rw [if_pos ⟨rfl, rfl, e1⟩]; dsimp only; rw [if_pos e1]
              · rw [if_neg (fun z => e1 z.2.2)]; dsimp only; rw [if_neg e1]; exact h u hu)
            exact ⟨τ, f, g1, (RJ.w (by omega)).tr g2⟩
          · rw [if_neg c2] at ih ⊢
            exact ih σ (by omega) (by omega) hw h
      · rw [cl, if_pos rfl] at ih
        rw [if_pos (show (if true = true then (1 : Int32) else 0) = 1 from rfl)]
        exact ih σ (by omega) (by omega) hw h
theorem sw56 (hD : WFD D) (hL : L < 2147483648) {a b : Int32} : ∀ (n i : Nat) (x : Nat → Nat) (σ : Mm), i ≤ 8 → 8 - i < n → (∀ u, x u ≤ 1000) → JwR σ L D → SwR σ x → ∃ τ, fX12_sway_56 31 a b n (nI i) σ = fX12_sway_228 31 a b τ ∧ SwR τ (swR D L (8 - i) x) ∧ RJ σ τ := by
  intro n
  induction n with
  | zero => intro i x σ _ h; omega
  | succ n ih =>
    intro i x σ hi hn hx hw h
    have hd := hD.1
    rw [fX12_sway_56, ln_8, ifle_n (by decide) (by omega)]
    by_cases cc : 8 ≤ i
    · rw [if_pos cc, show 8 - i = 0 by omega]
      exact ⟨σ, rfl, h, RJ.rf⟩
    · obtain ⟨τ, e, r1, r2⟩ := sw65 (a := a) (b := b) (r := nI i) (K := fX12_sway_56 31 a b n) hD hL hx FU 0 σ (by omega) (FU_gt (by omega)) hw h
      rw [nI_s] at e
      obtain ⟨ω, f, g1, g2⟩ := ih (i + 1) _ τ (by omega) (by omega) (swS_le hx _) (hw.w r2) r1
      rw [if_neg cc, show 8 - i = (8 - (i + 1)) + 1 by omega, swR]
      exact ⟨ω, Eq.trans e f, g1, r2.tr g2⟩
theorem sw24 {b : Int32} {v : Nat} (hv : v < 8) : ∀ (n i : Nat) (σ : Mm), i ≤ 8 → 8 - i < n → (∀ u, u < i → m_ar σ 31 12 u = nI (sw0 v u)) → ∃ τ, fX12_sway_24 31 (nI v) b n (nI i) σ = fX12_sway_56 31 (nI v) b FU (0 : Int32) τ ∧ SwR τ (sw0 v) ∧ RJ σ τ := by
  intro n
  induction n with
  | zero => intro i σ _ h; omega
  | succ n ih =>
    intro i σ hi hn h
    rw [fX12_sway_24, ln_8, ifle_n (by decide) (by omega)]
    by_cases cc : 8 ≤ i
    · rw [if_pos cc]
      exact ⟨σ, rfl, fun u hu => h u (by omega), RJ.rf⟩
    · rw [if_neg cc, s_ar_n (by omega) (by decide), s_ar_n (by omega) (by decide), nI_s, ife_n (by omega) (by omega)]
      have key : ∀ y : Int32, y = nI (sw0 v i) → ∃ τ, fX12_sway_24 31 (nI v) b n (nI (i + 1)) (w_ar σ 31 12 i y) = fX12_sway_56 31 (nI v) b FU (0 : Int32) τ ∧ SwR τ (sw0 v) ∧ RJ σ τ := by
        intro y hy
        obtain ⟨τ, f, g1, g2⟩ := ih (i + 1) (w_ar σ 31 12 i y) (by omega) (by omega) (fun u hu => by
          rw [m_ar_ar]
          by_cases e : u = i
          · rw [if_pos ⟨rfl, rfl, e⟩, hy, e]
          · rw [if_neg (fun z => e z.2.2)]; exact h u (by omega))
        exact ⟨τ, f, g1, (RJ.w (by omega)).tr g2⟩
      by_cases c2 : i = v
      · rw [if_pos c2]; exact key _ (by unfold sw0; rw [if_pos c2]; rfl)
      · rw [if_neg c2]; exact key _ (by unfold sw0; rw [if_neg c2]; rfl)
theorem sway_r (a b : Int32) (hW : WFG G) (h : RepR σ G) : OR (fX12_sway 31 a b σ) (spSw a b G) := by
  have hd := hW.d.1
  unfold fX12_sway spSw
  rcases ix_cases (n := d_v (GD G)) (by omega) a with ⟨ei, ha⟩ | ⟨v, hv, rfl, ei⟩ <;> rw [ei]
  · rw [isVane_r0 hW h ha, c_I_s, if_pos rfl]
    exact OR.non hW h _
  · rw [isVane_r1 hW h hv, c_I_s, if_neg (by decide)]
    dsimp only
    rcases ix_cases (n := d_v (GD G)) (by omega) b with ⟨ej, hb⟩ | ⟨u, hu, rfl, ej⟩ <;> rw [ej]
    · rw [isVane_r0 hW h hb, c_I_s, if_pos rfl]
      exact OR.non hW h _
    · rw [isVane_r1 hW h hu, c_I_s, if_neg (by decide)]
      dsimp only
      have hL := li_b hW.d hW.v
      obtain ⟨τ, f, r1, r2⟩ := sw24 (v := v) (b := nI u) (by omega) FU 0 σ (by omega) (FU_gt (by omega)) (fun u hu => by omega)
      obtain ⟨ω, f2, g1, g2⟩ := sw56 (a := nI v) (b := nI u) hW.d hL FU 0 (sw0 v) τ (by omega) (FU_gt (by omega)) sw0_le (h.jw.w r2) r1
      have g1 : SwR ω (swR (GD G) (v_li (GV G)) 8 (sw0 v)) := g1
      have hle := swR_le (D := GD G) (L := v_li (GV G)) (x := sw0 v) sw0_le 8 (sw0 v) sw0_le u
      refine Eq.mpr (congrArg (fun z => OR z _) (f.trans f2)) ?_
      have h2 : RepR ω G := h.rj hW (r2.tr g2)
      unfold fX12_sway_228
      rw [g_ar_n (by omega) (by decide), g1 u (by omega), show (1000 : Int32) = nI 1000 from rfl, ifle_n (by decide) (by omega), g_ar_n (by omega) (by decide), g1 u (by omega)]
      by_cases c : swR (GD G) (v_li (GV G)) 8 (sw0 v) u = 1000
      · rw [if_pos (by omega), if_pos c]; exact OR.non hW h2 _
      · rw [if_neg (by omega), if_neg c]; exact OR.ans hW h2 _
theorem sway_s (a : Int32) (b : Int32) (σ : Mm) (h : Rel σ) : ok (fX11_sway 0 a b σ) (fun q => ok (fX12_sway 31 a b q.2) (fun q' => q'.1 = q.1 ∧ Rel q'.2)) :=
  simS (fc := fX11_sway 0 a b) (fr := fX12_sway 31 a b) (ks := [0, 1, 2, 3, 4, 5, 6, 7, 8, 9, 10, 11]) (by decide) (spSw a b) (fun σ G => sway_c a b) (fun σ G => sway_r a b) (fun G hW => by unfold spSw; repeat (first | exact hW | split)) (fun σ x τ ee => F_sub (frX11_sway 0 a b (by decide) σ ee) (by decide)) (fun σ x τ ee => F_sub (frX12_sway 31 a b (by decide) σ ee) (by decide)) σ h
/-! numbers: common, ratio -/
theorem lgz0 {b : Nat} (hb : b < 2 ^ 63) : lg_cmp (lN b) (0 : Int64) = 0 ↔ b = 0 := by
  rw [lgc_0, pk_lT hb, show (0 : Int64).toInt = 0 from rfl]; omega
theorem lN0 {b : Nat} (hb : b < 2 ^ 63) (h : b ≠ 0) : lN b ≠ 0 := fun z => h (by
  have := (pk_lEQ (a := b) (b := 0) hb (by decide)).mp z
  exact this)
theorem gcd_s (a b : Nat) : Nat.gcd b (a % b) = Nat.gcd a b := by
  rw [Nat.gcd_comm b, ← Nat.gcd_rec, Nat.gcd_comm]
theorem gd_l {x y : Int64} : ∀ (n k a b : Nat), b + k < 200 → b < n → a < 2 ^ 63 → fX11_greatestDivisor_9 x y n (lN a) (lN b) (nI k) σ = some (lN (Nat.gcd a b), σ) := by
  intro n
  induction n with
  | zero => intro k a b _ h; omega
  | succ n ih =>
    intro k a b hk hb ha
    rw [fX11_greatestDivisor_9, show (200 : Int32) = nI 200 from rfl, ifle_n (by decide) (by omega), if_neg (by omega)]
    by_cases c : b = 0
    · rw [if_pos ((lgz0 (by omega)).mpr c), c, Nat.gcd_zero_right]
    · have hm := Nat.mod_lt a (show 0 < b by omega)
      rw [if_neg (fun z => c ((lgz0 (by omega)).mp z)), n_zl_e (lN0 (by omega) c), pk_lRem ha (by omega) (by omega), nI_s, ih (k + 1) b (a % b) (by omega) (by omega) (by omega), gcd_s]
theorem gd_e {a b : Nat} (ha : a < 2 ^ 63) (hb : b < 100) : fX11_greatestDivisor (lN a) (lN b) σ = some (lN (Nat.gcd a b), σ) := gd_l FU 0 a b (by omega) (FU_gt (by omega)) ha
theorem tb17 {x y : Int64} : ∀ (n a b : Nat), b < n → a < 2 ^ 63 → b < 2 ^ 63 → fX12_tellsBy_17 31 x y n (lN a) (lN b) σ = fX12_tellsBy_42 31 x y (lN (Nat.gcd a b)) σ := by
  intro n
  induction n with
  | zero => intro a b h; omega
  | succ n ih =>
    intro a b hb ha hb2
    rw [fX12_tellsBy_17]
    by_cases c : b = 0
    · rw [if_pos ((lgz0 hb2).mpr c), c, Nat.gcd_zero_right]
    · have hm := Nat.mod_lt a (show 0 < b by omega)
      rw [if_neg (fun z => c ((lgz0 hb2).mp z)), n_zl_e (lN0 hb2 c), pk_lRem ha (by omega) hb2, ih b (a % b) (by omega) (by omega) (by omega), gcd_s]
theorem cm70 {x : Int32} {K : Int64 → Int32 → Mm → Option (Int64 × Mm)} {w : Int64} {y : Int32} : ∀ (n a b : Nat), b < n → a < 2 ^ 63 → b < 2 ^ 63 → fX12_common_70 31 x K n w y (lN a) (lN b) σ = fX12_common_95 31 x K w y (lN (Nat.gcd a b)) σ := by
  intro n
  induction n with
  | zero => intro a b h; omega
  | succ n ih =>
    intro a b hb ha hb2
    rw [fX12_common_70]
    by_cases c : b = 0
    · rw [if_pos ((lgz0 hb2).mpr c), c, Nat.gcd_zero_right]
    · have hm := Nat.mod_lt a (show 0 < b by omega)
      rw [if_neg (fun z => c ((lgz0 hb2).mp z)), n_zl_e (lN0 hb2 c), pk_lRem ha (by omega) hb2, ih b (a % b) (by omega) (by omega) (by omega), gcd_s]
def coN (D : PD) (s : Nat) : Nat → Nat
  | 0 => 1
  | n + 1 => if s.testBit n = true then coN D s n / Nat.gcd (coN D s n) (d_te D n) * d_te D n else coN D s n
theorem co_le (hD : WFD D) {s : Nat} : ∀ n, n ≤ d_v D → coN D s n ≤ 60 ^ n := by
  intro n
  induction n with
  | zero => intro _; exact Nat.le_refl _
  | succ n ih =>
    intro hn
    have ih := ih (by omega)
    have hb := hD.2.1 n (by omega)
    rw [coN, Nat.pow_succ]
    split
    · exact Nat.mul_le_mul (Nat.le_trans (Nat.div_le_self _ _) ih) hb.2.1
    · exact Nat.le_trans ih (Nat.le_mul_of_pos_right _ (by decide))
theorem co_63 (hD : WFD D) {s n : Nat} (hn : n ≤ d_v D) : coN D s n < 2 ^ 63 := by
  have h1 := co_le hD (s := s) n hn
  have h2 : 60 ^ n ≤ 60 ^ 8 := Nat.pow_le_pow_right (by decide) (by have := hD.1; omega)
  have h3 : (60 : Nat) ^ 8 < 2 ^ 63 := by decide
  omega
def spCo (a : Int32) (G : GS) : Int64 × GS := match ix (2 ^ d_v (GD G)) a with
  | none => ((-1 : Int32).toInt64, stq 1 G)
  | some s => if s = 0 then ((-1 : Int32).toInt64, stq 1 G) else (lN (coN (GD G) s (d_v (GD G))), stq 0 G)
theorem co_lc {s : Nat} (hs : s < 2147483648) (hW : WFG G) (h : RepC σ G) : ∀ (n i : Nat), i ≤ d_v (GD G) → d_v (GD G) - i < n → fX11_common_32 0 (nI s) n (lN (coN (GD G) s i)) (nI i) σ = some (lN (coN (GD G) s (d_v (GD G))), w_sc σ 0 0 0) := by
  intro n
  induction n with
  | zero => intro i _ h; omega
  | succ n ih =>
    intro i hi hn
    have hd := hW.d.1
    obtain ⟨p, -, e, hk, hp⟩ := h.pl
    rw [fX11_common_32, show tg 0 9 = 4 from rfl, r_rf_e e hk, r_sc_s, hp.1.2.1, ifle_n (by omega) (by omega)]
    by_cases c : d_v (GD G) ≤ i
    · have : i = d_v (GD G) := by omega
      subst this
      rw [if_pos c, p_sc_s]
    · have hv : i < d_v (GD G) := by omega
      have hb := hW.d.2.1 i hv
      have ih := ih (i + 1) (by omega) (by omega)
      rw [coN] at ih
      rw [if_neg c, has_e hs (by omega), c_I_s, nI_s]
      by_cases cb : s.testBit i = true
      · rw [if_pos cb] at ih
        have h63 := co_63 hW.d (s := s) (n := i) (by omega)
        have hg : Nat.gcd (coN (GD G) s i) (d_te (GD G) i) ≠ 0 := fun z => by have := (Nat.gcd_eq_zero_iff.mp z).2; omega
        have hg2 : Nat.gcd (coN (GD G) s i) (d_te (GD G) i) < 2 ^ 63 := Nat.lt_of_le_of_lt (Nat.gcd_le_right _ (by omega)) (by omega)
        unfold fX11_leastMultiple
        rw [if_pos cb, if_neg (by decide), r_rf_e e hk, g_ar_n (by omega) (by decide), (hp.2.1 i hv).1, nI_l (by omega), gd_e h63 (by omega), c_L_s, if_neg (fun z => hg ((lgz0 hg2).mp z)), n_zl_e (lN0 hg2 hg), c_L_s, pk_lDiv h63 (by omega) hg2, lN_mul]
        exact ih
      · rw [if_neg cb] at ih
        rw [if_neg cb, if_pos rfl]
        exact ih
theorem co_lr {s : Nat} (hs : s < 2147483648) (hW : WFG G) (h : RepR σ G) : ∀ (n i : Nat), i ≤ d_v (GD G) → d_v (GD G) - i < n → fX12_common_28 31 (nI s) n (lN (coN (GD G) s i)) (nI i) σ = some (lN (coN (GD G) s (d_v (GD G))), w_sc σ 31 2 0) := by
  intro n
  induction n with
  | zero => intro i _ h; omega
  | succ n ih =>
    intro i hi hn
    have hd := hW.d.1
    rw [fX12_common_28, show g_ar σ 31 0 2950 (1 : Int32) = g_ar σ 31 0 2950 (nI 1) from rfl, g_ar_n (by decide) (by decide), show m_ar σ 31 0 1 = nI (d_v (GD G)) from h.pl.1.2.1, ifle_n (by omega) (by omega)]
    by_cases c : d_v (GD G) ≤ i
    · have : i = d_v (GD G) := by omega
      subst this
      rw [if_pos c, p_sc_s]
    · have hv : i < d_v (GD G) := by omega
      have hb := hW.d.2.1 i hv
      have ih := ih (i + 1) (by omega) (by omega)
      have hte : m_ar σ 31 0 (20 + 6 * i) = nI (d_te (GD G) i) := (show 0 + 20 + 6 * i = 20 + 6 * i by omega) ▸ (h.pl.2.1 i hv).1
      rw [coN] at ih
      rw [if_neg c, has_n hs (by omega), nI_s]
      by_cases cb : s.testBit i = true
      · rw [if_pos cb] at ih
        have h63 := co_63 hW.d (s := s) (n := i) (by omega)
        have hg : Nat.gcd (coN (GD G) s i) (d_te (GD G) i) ≠ 0 := fun z => by have := (Nat.gcd_eq_zero_iff.mp z).2; omega
        have hg2 : Nat.gcd (coN (GD G) s i) (d_te (GD G) i) < 2 ^ 63 := Nat.lt_of_le_of_lt (Nat.gcd_le_right _ (by omega)) (by omega)
        rw [if_pos cb, if_neg (by decide), ln_20, ln_6, nI_mul, nI_ad, g_ar_n (by omega) (by decide), hte, nI_l (by omega), cm70 FU _ _ (FU_gt (by omega)) h63 (by omega)]
        unfold fX12_common_95
        rw [n_zl_e (lN0 hg2 hg), ln_20, ln_6, nI_mul, nI_ad, g_ar_n (by omega) (by decide), hte, nI_l (by omega), pk_lDiv h63 (by omega) hg2, lN_mul, nI_s]
        exact ih
      · rw [if_neg cb] at ih
        rw [if_neg cb, if_pos rfl]
        exact ih
theorem common_c (a : Int32) (hW : WFG G) (h : RepC σ G) : ok (fX11_common 0 a σ) (fun q => q.1 = (spCo a G).1 ∧ RepC q.2 (spCo a G).2) := by
  have hd := hW.d.1
  have hp8 := pow8 hd.2.1
  have h1 := Nat.one_le_two_pow (n := d_v (GD G))
  obtain ⟨p, -, e, hk, hp⟩ := h.pl
  unfold fX11_common spCo
  rcases ix_cases (n := 2 ^ d_v (GD G)) (by omega) a with ⟨ei, ha⟩ | ⟨s, hs, rfl, ei⟩ <;> rw [ei]
  · dsimp only
    rcases ha with ha | ⟨ha, hb⟩
    · rw [if_pos (show a ≤ 0 from by rw [Int32.lt_iff_toInt_lt] at ha; rw [Int32.le_iff_toInt_le]; omega)]
      exact ⟨_, rfl, rfl, h.st 1 hW⟩
    · by_cases c : a ≤ 0
      · rw [if_pos c]; exact ⟨_, rfl, rfl, h.st 1 hW⟩
      · rw [if_neg c, show tg 0 9 = 4 from rfl, r_rf_e e hk, r_sc_s, hp.1.2.1, sh1 (by omega), if_neg (i_le_lt hb)]
        exact ⟨_, rfl, rfl, h.st 1 hW⟩
  · dsimp only
    rw [show (0 : Int32) = nI 0 from rfl, ifle_n (by omega) (by decide)]
    by_cases c : s = 0
    · rw [if_pos (by omega), if_pos c]; exact ⟨_, rfl, rfl, h.st 1 hW⟩
    · rw [if_neg (by omega), if_neg c, show tg 0 9 = 4 from rfl, r_rf_e e hk, r_sc_s, hp.1.2.1, sh1 (by omega), ifl_n (by omega) (by omega), if_pos hs]
      exact ⟨_, co_lc (by omega) hW h FU 0 (by omega) (FU_gt (by omega)), rfl, h.st 0 hW⟩
theorem common_r (a : Int32) (hW : WFG G) (h : RepR σ G) : ok (fX12_common 31 a σ) (fun q => q.1 = (spCo a G).1 ∧ RepR q.2 (spCo a G).2) := by
  have hd := hW.d.1
  have hp8 := pow8 hd.2.1
  have h1 := Nat.one_le_two_pow (n := d_v (GD G))
  unfold fX12_common spCo
  rcases ix_cases (n := 2 ^ d_v (GD G)) (by omega) a with ⟨ei, ha⟩ | ⟨s, hs, rfl, ei⟩ <;> rw [ei]
  · dsimp only
    rcases ha with ha | ⟨ha, hb⟩
    · rw [if_pos (show a ≤ 0 from by rw [Int32.lt_iff_toInt_lt] at ha; rw [Int32.le_iff_toInt_le]; omega)]
      exact ⟨_, rfl, rfl, h.st 1 hW⟩
    · by_cases c : a ≤ 0
      · rw [if_pos c]; exact ⟨_, rfl, rfl, h.st 1 hW⟩
      · rw [if_neg c, show g_ar σ 31 0 2950 (1 : Int32) = g_ar σ 31 0 2950 (nI 1) from rfl, g_ar_n (by decide) (by decide), show m_ar σ 31 0 1 = nI (d_v (GD G)) from h.pl.1.2.1, sh1 (by omega), if_neg (i_le_lt hb)]
        exact ⟨_, rfl, rfl, h.st 1 hW⟩
  · dsimp only
    rw [show (0 : Int32) = nI 0 from rfl, ifle_n (by omega) (by decide)]
    by_cases c : s = 0
    · rw [if_pos (by omega), if_pos c]; exact ⟨_, rfl, rfl, h.st 1 hW⟩
    · rw [if_neg (by omega), if_neg c, show g_ar σ 31 0 2950 (1 : Int32) = g_ar σ 31 0 2950 (nI 1) from rfl, g_ar_n (by decide) (by decide), show m_ar σ 31 0 1 = nI (d_v (GD G)) from h.pl.1.2.1, sh1 (by omega), ifl_n (by omega) (by omega), if_pos hs]
      exact ⟨_, co_lr (by omega) hW h FU 0 (by omega) (FU_gt (by omega)), rfl, h.st 0 hW⟩
/-! a fraction is told -/
theorem frac_c {x : Int64} {a b : Nat} (ha : a < 100) (hb1 : 1 ≤ b) (hb : b < 100) (hx : x = lN a ∨ x = -lN a) : fX11_tellFraction 0 x (lN b) σ = some (w_lg (w_lg σ 0 1 (x / lN (Nat.gcd a b))) 0 2 (lN b / lN (Nat.gcd a b))) := by
  have hg : Nat.gcd a b ≠ 0 := fun z => by have := (Nat.gcd_eq_zero_iff.mp z).2; omega
  have hg2 : Nat.gcd a b < 2 ^ 63 := Nat.lt_of_le_of_lt (Nat.gcd_le_right _ (by omega)) (by omega)
  have e : (if 0 < x then x else -x) = lN a := by
    have t := pk_lT (n := a) (by omega)
    rcases hx with rfl | rfl
    · by_cases c : (0 : Int64) < lN a
      · rw [if_pos c]
      · rw [if_neg c]
        have : a = 0 := by
          rw [Int64.lt_iff_toInt_lt, t, show (0 : Int64).toInt = 0 from rfl] at c; omega
        subst this; rfl
    · rw [if_neg, Int64.neg_neg]
      intro c
      rw [Int64.lt_iff_toInt_lt, Int64.toInt_neg, t, show (0 : Int64).toInt = 0 from rfl, Int.bmod_eq_of_le (by omega) (by omega)] at c
      omega
  unfold fX11_tellFraction
  rw [e, gd_e (by omega) hb, c_L_s, if_neg (fun z => hg ((lgz0 hg2).mp z)), n_zl_e (lN0 hg2 hg), p_lg_s, n_zl_e (lN0 hg2 hg), p_lg_s]
theorem frac_r {x : Int64} {a b : Nat} (ha : a < 100) (hb1 : 1 ≤ b) (hb : b < 100) (hx : x = lN a ∨ x = -lN a) : fX12_tellsBy 31 x (lN b) σ = some (1, w_sc (w_lg (w_lg σ 31 3 (x / lN (Nat.gcd a b))) 31 4 (lN b / lN (Nat.gcd a b))) 31 2 0) := by
  have hg : Nat.gcd a b ≠ 0 := fun z => by have := (Nat.gcd_eq_zero_iff.mp z).2; omega
  have hg2 : Nat.gcd a b < 2 ^ 63 := Nat.lt_of_le_of_lt (Nat.gcd_le_right _ (by omega)) (by omega)
  have t := pk_lT (n := a) (by omega)
  have e42 : fX12_tellsBy_42 31 x (lN b) (lN (Nat.gcd a b)) σ = some (1, w_sc (w_lg (w_lg σ 31 3 (x / lN (Nat.gcd a b))) 31 4 (lN b / lN (Nat.gcd a b))) 31 2 0) := by
    unfold fX12_tellsBy_42
    rw [n_zl_e (lN0 hg2 hg), p_lg_s, n_zl_e (lN0 hg2 hg), p_lg_s]
    rfl
  have lz : ∀ y : Int64, (0 ≤ lg_cmp y (0 : Int64)) ↔ ¬ y.toInt < 0 := fun y => by
    rw [← show (0 : Int64).toInt = 0 from rfl, ← lgc_neg, Int32.le_iff_toInt_le, Int32.lt_iff_toInt_lt]; omega
  unfold fX12_tellsBy
  rcases hx with hx | hx
  · rw [if_pos ((lz x).mpr (by rw [hx, t]; omega))]
    conv => lhs; rw [show fX12_tellsBy_17 31 x (lN b) FU x (lN b) σ = fX12_tellsBy_17 31 x (lN b) FU (lN a) (lN b) σ from congrArg (fun z => fX12_tellsBy_17 31 x (lN b) FU z (lN b) σ) hx]
    rw [tb17 FU a b (FU_gt (by omega)) (by omega) (by omega), e42]
  · have en : -x = lN a := by rw [hx, Int64.neg_neg]
    by_cases c : 0 ≤ lg_cmp x (0 : Int64)
    · have h0 : a = 0 := by
        have := (lz x).mp c
        rw [hx, Int64.toInt_neg, t, Int.bmod_eq_of_le (by omega) (by omega)] at this
        omega
      have hx0 : x = lN a := by rw [hx, h0]; rfl
      rw [if_pos c]
      conv => lhs; rw [show fX12_tellsBy_17 31 x (lN b) FU x (lN b) σ = fX12_tellsBy_17 31 x (lN b) FU (lN a) (lN b) σ from congrArg (fun z => fX12_tellsBy_17 31 x (lN b) FU z (lN b) σ) hx0]
      rw [tb17 FU a b (FU_gt (by omega)) (by omega) (by omega), e42]
    · rw [if_neg c, en, tb17 FU a b (FU_gt (by omega)) (by omega) (by omega), e42]
def raX (D : PD) (L v u : Nat) : Int64 := (iI ((jwJ D L v).2.2.2 u)).toInt64 * (nI (d_te D v)).toInt64
theorem ra_x (hD : WFD D) (hv : v < d_v D) {u : Nat} : raX D L v u = lN (d_te D v) ∨ raX D L v u = -lN (d_te D v) := by
  have hb := hD.2.1 v hv
  unfold raX
  rw [nI_l (by omega)]
  rcases (jw_I (L := L) hD hv).2.2.2 u with e | e <;> rw [e]
  · refine Or.inl ?_
    rw [show (iI 1).toInt64 = lN 1 from rfl, lN_mul, Nat.one_mul]
  · refine Or.inr ?_
    rw [show (iI (-1)).toInt64 = -lN 1 from rfl, Int64.neg_mul, lN_mul, Nat.one_mul]
def spRa (a b : Int32) (G : GS) : Int32 × GS := match ix (d_v (GD G)) a with
  | none => (0, stq 1 G)
  | some v => match ix (d_v (GD G)) b with
    | none => (0, stq 1 G)
    | some u => if (jwJ (GD G) (v_li (GV G)) v).1.testBit u = true then (1, ((0, raX (GD G) (v_li (GV G)) v u / lN (Nat.gcd (d_te (GD G) v) (d_te (GD G) u)), lN (d_te (GD G) u) / lN (Nat.gcd (d_te (GD G) v) (d_te (GD G) u))), G.2)) else (0, stq 7 G)
theorem ratio_c (a b : Int32) (hW : WFG G) (h : RepC σ G) : OC (fX11_ratio 0 a b σ) (spRa a b G) := by
  have hd := hW.d.1
  unfold fX11_ratio spRa
  rcases ix_cases (n := d_v (GD G)) (by omega) a with ⟨ei, ha⟩ | ⟨v, hv, rfl, ei⟩ <;> rw [ei]
  · rw [isVane_c0 hW h ha, c_I_s, if_pos rfl]
    exact OC.rfs hW h _
  · rw [isVane_c1 hW h hv, c_I_s, if_neg (by decide)]
    dsimp only
    rcases ix_cases (n := d_v (GD G)) (by omega) b with ⟨ej, hb⟩ | ⟨u, hu, rfl, ej⟩ <;> rw [ej]
    · rw [isVane_c0 hW h hb, c_I_s, if_pos rfl]
      exact OC.rfs hW h _
    · rw [isVane_c1 hW h hu, c_I_s, if_neg (by decide)]
      dsimp only
      obtain ⟨p, hp8, e, hk, hp⟩ := h.pl
      have n1 : p ≠ 12 := by omega
      obtain ⟨τ, f, r1, r2, r3⟩ := search_c (L := v_li (GV G)) hW.d (li_b hW.d hW.v) hk hp hv
      have h2 : RepC τ G := h.c12 hW r3
      have e2 : m_rf τ 4 0 = some p := ((r3 4 (by decide)).2.2.2.2 0).trans e
      have hp2 := hp.bu (r3 p n1)
      have tv := hW.d.2.1 v hv
      have tu := hW.d.2.1 u hu
      rw [show tg 0 9 = 4 from rfl, show tg 4 1 = 6 from rfl, show tg 0 16 = 12 from rfl, r_rf_e e hk, r_sc_s, h.sv.2.2.2.1, f, c_V_s, r_sc_s, r1.1, has_e (jw_31 hW.d hv) (by omega), c_I_s]
      by_cases c : (jwJ (GD G) (v_li (GV G)) v).1.testBit u = true
      · rw [if_pos c, if_pos c, if_neg (by decide), g_ar_n (by omega) (by decide), r1.2.2.2 u (by omega) c, r_rf_e e2 hk, g_ar_n (by omega) (by decide), (hp2.2.1 v hv).1, r_rf_e e2 hk, g_ar_n (by omega) (by decide), (hp2.2.1 u hu).1, show (iI ((jwJ (GD G) (v_li (GV G)) v).2.2.2 u)).toInt64 * (nI (d_te (GD G) v)).toInt64 = raX (GD G) (v_li (GV G)) v u from rfl, nI_l (n := d_te (GD G) u) (by omega), frac_c (by omega) (by omega) (by omega) (ra_x hW.d hv), c_V_s]
        refine ⟨_, rfl, ?_⟩
        refine RepC.upd (σ := τ) _ hW.2.2.2.1 (fun q _ hb => ?_) ⟨rfl, rfl, rfl, rfl, rfl⟩ ⟨rfl, rfl, rfl⟩ h2
        have hq : q ≠ 0 := fun z => hb (by rw [z]; decide)
        exact BU.scs hq ((BU.lg hq).tr (BU.lg hq))
      · rw [if_neg c, if_neg c, if_pos rfl]
        exact OC.rfs hW h2 _
theorem ratio_r (a b : Int32) (hW : WFG G) (h : RepR σ G) : OR (fX12_ratio 31 a b σ) (spRa a b G) := by
  have hd := hW.d.1
  unfold fX12_ratio spRa
  rcases ix_cases (n := d_v (GD G)) (by omega) a with ⟨ei, ha⟩ | ⟨v, hv, rfl, ei⟩ <;> rw [ei]
  · rw [isVane_r0 hW h ha, c_I_s, if_pos rfl]
    exact OR.rfs hW h (by decide)
  · rw [isVane_r1 hW h hv, c_I_s, if_neg (by decide)]
    dsimp only
    rcases ix_cases (n := d_v (GD G)) (by omega) b with ⟨ej, hb⟩ | ⟨u, hu, rfl, ej⟩ <;> rw [ej]
    · rw [isVane_r0 hW h hb, c_I_s, if_pos rfl]
      exact OR.rfs hW h (by decide)
    · rw [isVane_r1 hW h hu, c_I_s, if_neg (by decide)]
      dsimp only
      obtain ⟨τ, f, r1, r2⟩ := joinedWith_r hW.d (li_b hW.d hW.v) h.jw hv
      have h2 : RepR τ G := h.rj hW r2
      have tv := hW.d.2.1 v hv
      have tu := hW.d.2.1 u hu
      have hte : ∀ i, i < d_v (GD G) → m_ar τ 31 0 (20 + 6 * i) = nI (d_te (GD G) i) := fun i hi => (show 0 + 20 + 6 * i = 20 + 6 * i by omega) ▸ (h2.pl.2.1 i hi).1
      rw [f, c_I_s, has_n (jw_31 hW.d hv) (by omega)]
      by_cases c : (jwJ (GD G) (v_li (GV G)) v).1.testBit u = true
      · rw [if_pos c, if_pos c, if_neg (by decide), g_ar_n (by omega) (by decide), r1.2.2 u (by omega) c, ln_20, ln_6, nI_mul, nI_ad, g_ar_n (by omega) (by decide), hte v hv, nI_mul, nI_ad, g_ar_n (by omega) (by decide), hte u hu, show (iI ((jwJ (GD G) (v_li (GV G)) v).2.2.2 u)).toInt64 * (nI (d_te (GD G) v)).toInt64 = raX (GD G) (v_li (GV G)) v u from rfl, nI_l (n := d_te (GD G) u) (by omega), frac_r (by omega) (by omega) (by omega) (ra_x hW.d hv), c_I_s]
        refine ⟨_, rfl, ?_⟩
        refine RepR.upd (σ := τ) _ hW ⟨fun k hk => ?_, fun _ _ => rfl, rfl, fun _ _ => rfl, fun _ _ => rfl⟩ ⟨rfl, rfl, rfl⟩ h2
        rw [m_sc_sc, if_neg (by omega)]; rfl
      · rw [if_neg c, if_neg c, if_pos rfl]
        exact OR.rfs hW h2 (by decide)
theorem common_s (a : Int32) (σ : Mm) (h : Rel σ) : ok (fX11_common 0 a σ) (fun q => ok (fX12_common 31 a q.2) (fun q' => q'.1 = q.1 ∧ Rel q'.2)) :=
  simL (fc := fX11_common 0 a) (fr := fX12_common 31 a) (ks := [0, 1, 2, 3, 4, 5, 6, 7, 8, 9, 10, 11]) (by decide) (fun G => (spCo a G).1) (fun G => (spCo a G).2) (fun σ G => common_c a) (fun σ G => common_r a) (fun G hW => by unfold spCo; repeat (first | exact hW | split)) (fun σ x τ ee => F_sub (frX11_common 0 a (by decide) σ ee) (by decide)) (fun σ x τ ee => F_sub (frX12_common 31 a (by decide) σ ee) (by decide)) σ h
theorem ratio_s (a : Int32) (b : Int32) (σ : Mm) (h : Rel σ) : ok (fX11_ratio 0 a b σ) (fun q => ok (fX12_ratio 31 a b q.2) (fun q' => q'.1 = q.1 ∧ Rel q'.2)) :=
  simS (fc := fX11_ratio 0 a b) (fr := fX12_ratio 31 a b) (ks := [0, 1, 2, 3, 4, 5, 6, 7, 8, 9, 10, 11]) (by decide) (spRa a b) (fun σ G => ratio_c a b) (fun σ G => ratio_r a b) (fun G hW => by unfold spRa; repeat (first | exact hW | split)) (fun σ x τ ee => F_sub (frX11_ratio 0 a b (by decide) σ ee) (by decide)) (fun σ x τ ee => F_sub (frX12_ratio 31 a b (by decide) σ ee) (by decide)) σ h
end O
