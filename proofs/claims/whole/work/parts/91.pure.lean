/-! PURE 32: whole, broken -/
theorem ffN_add (p : Nat → Bool) (a b i : Nat) : (ffF p (a + b) i).isNone = ((ffF p a i).isNone && (ffF p b (i + a)).isNone) := by
  cases h : (ffF p (a + b) i) with
  | none =>
    have h1 := (ffF_none _ _ _).mp h
    rw [(ffF_none _ _ _).mpr (fun j q1 q2 => h1 j q1 (by omega)), (ffF_none p b (i + a)).mpr (fun j q1 q2 => h1 j (by omega) (by omega))]; rfl
  | some k =>
    obtain ⟨k1, k2, k3, -⟩ := ffF_some _ _ _ _ h
    cases h2 : ffF p a i with
    | some _ => rfl
    | none =>
      have h3 := (ffF_none _ _ _).mp h2
      cases h4 : ffF p b (i + a) with
      | some _ => rfl
      | none =>
        have h5 := (ffF_none _ _ _).mp h4
        by_cases c : k < i + a
        · rw [h3 k k1 c] at k3; cases k3
        · rw [h5 k (by omega) (by omega)] at k3; cases k3
theorem ffN_1 (p : Nat → Bool) (k i : Nat) : (ffF p (k + 1) i).isNone = (!p i && (ffF p k (i + 1)).isNone) := by
  rw [ffF]
  cases p i <;> rfl
theorem lgc_0 (a b : Int64) : lg_cmp a b = 0 ↔ a.toInt = b.toInt := by
  rw [lgc_v]
  by_cases h : b.toInt < a.toInt
  · rw [if_pos h]; exact ⟨fun q => absurd q (by decide), fun q => by omega⟩
  · rw [if_neg h]
    by_cases h2 : a.toInt = b.toInt
    · rw [if_pos h2]; exact ⟨fun _ => h2, fun _ => rfl⟩
    · rw [if_neg h2]; exact ⟨fun q => absurd q (by decide), fun q => absurd q h2⟩
abbrev TQ : Type := Nat × Nat × (Nat → Int64)
/-- a number that is no tooth; rows that come as seen -/
def bdB (D : PD) (q : TQ) (k : Nat) : Bool := !(decide (0 ≤ (q.2.2 k).toInt) && decide ((q.2.2 k).toInt < d_te D (k % d_v D)))
def neB (D : PD) (q : TQ) (r : Nat) (V : SD) (v : Nat) : Bool := !((q.2.2 (r * d_v D + v)).toInt == (v_pt V v : Int))
def csB (D : PD) (q : TQ) : Nat → Nat → MTq → Bool
  | 0, _, _ => true
  | n + 1, r, M => (fsF (neB D q r (qtM D M).1) (d_v D)).isNone && csB D q n (r + 1) (qtM D M)
def seS (a b : Int32) (G : GS) : Sum Int32 (Nat × Nat × TQ) := match ix 4 a with
  | none => Sum.inl 1
  | some t => match sx 15 b with
    | none => Sum.inl 1
    | some r => match g_y G t with
      | none => Sum.inl 2
      | some q => if q.2.1 < r * d_v (GD G) then Sum.inl 3 else if (ffF (bdB (GD G) q) (r * d_v (GD G)) 0).isNone then Sum.inr (t, r, q) else Sum.inl 5
def spWh (a b : Int32) (G : GS) : Int32 × GS := match seS a b G with
  | Sum.inl x => (-1, stq x G)
  | Sum.inr z => (if csB (GD G) z.2.2 z.2.1 0 (GV G, C0) then 1 else 0, stq 0 G)
def spBr (a b : Int32) (G : GS) : Int32 × GS := match seS a b G with
  | Sum.inl x => (-1, stq x G)
  | Sum.inr z => (nI (bsN (fun s => !(v_li (GV G)).testBit s && csB (GD G) z.2.2 z.2.1 0 (vL (GV G) (v_li (GV G) ||| 2 ^ s), C0)) (d_s (GD G))), stq 0 G)
section O
variable {σ τ : Mm} {v : Nat} {D : PD} {V : SD} {g : Nat → Int} {C : CT} {M : MTq} {G : GS}
theorem nI_L {n : Nat} (h : n < 2147483648) : (nI n).toInt64.toInt = n := by
  rw [Int32.toInt_toInt64, nI_iI]; exact iI_t (by omega) (by omega)
theorem mul_b {r d : Nat} (hr : r ≤ 15) (hd : d ≤ 8) : r * d ≤ 120 := Nat.le_trans (Nat.mul_le_mul hr hd) (by decide)
theorem rowm {r d v : Nat} (hv : v < d) : (r * d + v) % d = v := by
  rw [Nat.add_comm, Nat.add_mul_mod_self_right, Nat.mod_eq_of_lt hv]
theorem ht_i {t r : Nat} {q : TQ} {x : Int32} {K : Int32 → Mm → Option (Int32 × Mm)} (hW : WFG G) (h : RepC σ G) (ht : t < 4) (hy : g_y G t = some q) (hr : r ≤ 15) (hq : (r + 1) * d_v (GD G) ≤ q.2.1) : ∀ (n v : Nat), v ≤ d_v (GD G) → d_v (GD G) - v < n → fX11_holdsTeeth_10 0 (15 + t) x K n (nI r) (nI v) σ = if (ffF (bdB (GD G) q) (d_v (GD G) - v) (r * d_v (GD G) + v)).isNone then K (nI (r + 1)) σ else some (0, σ) := by
  intro n
  induction n with
  | zero => intro v _ h; omega
  | succ n ih =>
    intro v hv hn
    have hd := hW.d.1
    have hq60 := (hW.1 t ht q hy).2
    have htr := h.2.1 t ht
    rw [hy] at htr
    obtain ⟨p, -, e, hk, hp⟩ := h.pl
    have hm := mul_b hr hd.2.1
    rw [Nat.succ_mul] at hq
    rw [fX11_holdsTeeth_10, show tg 0 9 = 4 from rfl, r_rf_e e hk, r_sc_s, hp.1.2.1, ifle_n (by omega) (by omega)]
    by_cases c : d_v (GD G) ≤ v
    · rw [if_pos c, nI_s, show d_v (GD G) - v = 0 by omega]; rfl
    · have hv' : v < d_v (GD G) := by omega
      have hb := hW.d.2.1 v hv'
      rw [if_neg c, r_rf_e e hk, r_sc_s, hp.1.2.1, nI_mul, nI_ad, g_la_n (by omega) (by decide), htr.2.2 _ (by omega), nI_s, show d_v (GD G) - v = (d_v (GD G) - (v + 1)) + 1 by omega, ffN_1]
      have ih := ih (v + 1) (by omega) (by omega)
      rw [← Nat.add_assoc] at ih
      unfold bdB at ih ⊢
      rw [rowm hv']
      by_cases c1 : (q.2.2 (r * d_v (GD G) + v)).toInt < 0
      · rw [if_pos ((lgc_neg _ _).mpr c1), decide_eq_false (show ¬ 0 ≤ (q.2.2 (r * d_v (GD G) + v)).toInt by omega)]; rfl
      · rw [if_neg (fun z => c1 ((lgc_neg _ _).mp z)), r_rf_e e hk, g_ar_n (by omega) (by decide), (hp.2.1 v hv').1, decide_eq_true (show 0 ≤ (q.2.2 (r * d_v (GD G) + v)).toInt by omega)]
        by_cases c2 : (q.2.2 (r * d_v (GD G) + v)).toInt < d_te (GD G) v
        · rw [if_pos ((lgc_neg _ _).mpr (by rw [nI_L (by omega)]; exact c2)), decide_eq_true c2]
          exact ih
        · rw [if_neg (fun z => c2 (by have := (lgc_neg _ _).mp z; rw [nI_L (by omega)] at this; exact this)), decide_eq_false c2]; rfl
theorem ht_o {t R : Nat} {q : TQ} (hW : WFG G) (h : RepC σ G) (ht : t < 4) (hy : g_y G t = some q) (hR : R ≤ 15) (hq : R * d_v (GD G) ≤ q.2.1) : ∀ (n r : Nat), r ≤ R → R - r < n → fX11_holdsTeeth_2 0 (15 + t) (nI R) n (nI r) σ = some (if (ffF (bdB (GD G) q) ((R - r) * d_v (GD G)) (r * d_v (GD G))).isNone then 1 else 0, σ) := by
  intro n
  induction n with
  | zero => intro r _ h; omega
  | succ n ih =>
    intro r hr hn
    have hd := hW.d.1
    rw [fX11_holdsTeeth_2, ifle_n (by omega) (by omega)]
    by_cases c : R ≤ r
    · rw [if_pos c, show R - r = 0 by omega, Nat.zero_mul]; rfl
    · have ih := ih (r + 1) (by omega) (by omega)
      have hi := ht_i (x := nI R) (K := fX11_holdsTeeth_2 0 (15 + t) (nI R) n) hW h ht hy (r := r) (by omega) (Nat.le_trans (Nat.mul_le_mul_right _ (by omega)) hq) FU 0 (by omega) (FU_gt (by omega))
      rw [if_neg c, show (0 : Int32) = nI 0 from rfl, hi, ih, show R - r = (R - (r + 1)) + 1 by omega, Nat.succ_mul (R - (r + 1)), Nat.add_comm _ (d_v (GD G)), ffN_add, Nat.sub_zero, Nat.add_zero, ← Nat.succ_mul]
      cases (ffF (bdB (GD G) q) (d_v (GD G)) (r * d_v (GD G))).isNone <;> rfl
theorem seen_c (a b : Int32) (hW : WFG G) (h : RepC σ G) : fX11_seenStatus 0 a b σ = some (match seS a b G with
    | Sum.inl x => x
    | Sum.inr _ => 0, σ) := by
  have hd := hW.d.1
  unfold fX11_seenStatus seS
  rcases ix_cases (n := 4) (by decide) a with ⟨ei, ha⟩ | ⟨t, ht, rfl, ei⟩ <;> rw [ei]
  · rw [isTray_c0 ha, c_I_s, if_pos rfl]
  · rw [isTray_c1 ht, c_I_s, if_neg (by decide)]
    dsimp only
    rcases sx_cases (n := 15) (by decide) b with ⟨ej, hb⟩ | ⟨r, hr1, hr, rfl, ej⟩ <;> rw [ej]
    · rcases hb with hb | ⟨hb1, hb2⟩
      · rw [if_pos hb]
      · rw [if_neg hb1, if_neg (show ¬ b ≤ (15 : Int32) from i_lt_le hb2)]
    · dsimp only
      rw [show (1 : Int32) = nI 1 from rfl, ifl_n (by omega) (by decide), if_neg (by omega), ln_15, ifle_n (by omega) (by decide), if_pos hr, g_bl_n ht (by decide), show ra 0 t = 15 + t from rfl]
      cases hy : g_y G t with
      | none => rw [miss_1 ht h hy, c_I_s, if_neg (by decide)]
      | some q =>
        have hq60 := (hW.1 t ht q hy).2
        have htr := h.2.1 t ht
        rw [hy] at htr
        obtain ⟨p, -, e, hk, hp⟩ := h.pl
        have hm := mul_b hr hd.2.1
        rw [miss_0 ht hW h hy, c_I_s, if_pos rfl, g_bl_n ht (by decide), show ra 0 t = 15 + t from rfl, show tg 0 9 = 4 from rfl, r_rf_e e hk, r_sc_s, hp.1.2.1, nI_mul, show (0 : Int32) = nI 0 from rfl, hasFrom_e (by decide) (by omega) hq60 htr.2.1, c_I_s, Nat.zero_add]
        dsimp only
        by_cases c : q.2.1 < r * d_v (GD G)
        · rw [if_pos c, if_pos (show (if r * d_v (GD G) ≤ q.2.1 then (1 : Int32) else 0) = nI 0 by rw [if_neg (by omega)]; rfl)]
        · have ho := ht_o (R := r) hW h ht hy hr (by omega) FU 0 (by omega) (FU_gt (by omega))
          rw [Nat.sub_zero, Nat.zero_mul] at ho
          have ho : fX11_holdsTeeth 0 (15 + t) (nI r) σ = _ := ho
          rw [if_neg c, if_neg (show ¬ (if r * d_v (GD G) ≤ q.2.1 then (1 : Int32) else 0) = nI 0 by rw [if_pos (by omega)]; decide), g_bl_n ht (by decide), show ra 0 t = 15 + t from rfl, ho, c_I_s]
          cases (ffF (bdB (GD G) q) (r * d_v (GD G)) 0).isNone <;> rfl
theorem isFrom_L (x l m : Int64) (σ : Mm) : fX12_isFrom x l m σ = some (if l.toInt ≤ x.toInt ∧ x.toInt ≤ m.toInt then 1 else 0, σ) := by
  unfold fX12_isFrom
  by_cases h : x.toInt < l.toInt
  · rw [if_pos ((lgc_neg _ _).mpr (by omega)), if_neg (by omega)]
  · rw [if_neg (fun q => h (by rw [lgc_neg] at q; omega))]
    by_cases h2 : m.toInt < x.toInt
    · rw [if_pos ((lgc_pos _ _).mpr (by omega)), if_neg (by omega)]
    · rw [if_neg (fun q => h2 (by rw [lgc_pos] at q; omega)), if_pos (by omega)]
theorem wr_l {t r : Nat} {q : TQ} (hW : WFG G) (h : RepR σ G) (ht : t < 4) (hy : g_y G t = some q) (hr : r ≤ 15) (hq : r * d_v (GD G) ≤ q.2.1) : ∀ (n k : Nat), k ≤ r * d_v (GD G) → r * d_v (GD G) - k < n → fX12_wrongRows_54 31 (nI t) (nI r) n (nI k) σ = some (if (ffF (bdB (GD G) q) (r * d_v (GD G) - k) k).isNone then 0 else 5, σ) := by
  intro n
  induction n with
  | zero => intro k _ h; omega
  | succ n ih =>
    intro k hk hn
    have hd := hW.d.1
    have hq60 := (hW.1 t ht q hy).2
    have htr := h.2.1 t ht
    rw [hy] at htr
    have hm := mul_b hr hd.2.1
    rw [fX12_wrongRows_54, show g_ar σ 31 0 2950 (1 : Int32) = g_ar σ 31 0 2950 (nI 1) from rfl, g_ar_n (by decide) (by decide), show m_ar σ 31 0 1 = nI (d_v (GD G)) from h.pl.1.2.1, nI_mul, ifle_n (by omega) (by omega)]
    by_cases c : r * d_v (GD G) ≤ k
    · rw [if_pos c, show r * d_v (GD G) - k = 0 by omega]; rfl
    · have h0 : 0 < d_v (GD G) := by
        rcases Nat.eq_zero_or_pos (d_v (GD G)) with e0 | e0
        · rw [e0, Nat.mul_zero] at c; omega
        · exact e0
      have hkm : k % d_v (GD G) < d_v (GD G) := Nat.mod_lt _ h0
      have hb := hW.d.2.1 _ hkm
      have ih := ih (k + 1) (by omega) (by omega)
      rw [if_neg c, ln_60, nI_mul, nI_ad, g_la_n (by omega) (by decide), htr.2.2 k (by omega), g_ar_n (by decide) (by decide), show m_ar σ 31 0 1 = nI (d_v (GD G)) from h.pl.1.2.1, n_z_e (fun z => by rw [nI_eq0 (by omega)] at z; omega), pk_rem (by omega) h0 (by omega), ln_20, ln_6, nI_mul, nI_ad, g_ar_n (by omega) (by decide), show m_ar σ 31 0 (20 + 6 * (k % d_v (GD G))) = nI (d_te (GD G) (k % d_v (GD G))) from (show 0 + 20 + 6 * (k % d_v (GD G)) = 20 + 6 * (k % d_v (GD G)) by omega) ▸ (h.pl.2.1 _ hkm).1, show (1 : Int32) = nI 1 from rfl, nI_sub (by omega), isFrom_L, nI_L (by omega), c_I_s, nI_ad, show r * d_v (GD G) - k = (r * d_v (GD G) - (k + 1)) + 1 by omega, ffN_1]
      by_cases cc : (0 : Int64).toInt ≤ (q.2.2 k).toInt ∧ (q.2.2 k).toInt ≤ ((d_te (GD G) (k % d_v (GD G)) - 1 : Nat) : Int)
      · rw [if_pos cc, if_neg (show ¬ (1 : Int32) = 0 by decide), ih]
        have : bdB (GD G) q k = false := by
          unfold bdB
          rw [decide_eq_true (show 0 ≤ (q.2.2 k).toInt from cc.1), decide_eq_true (show (q.2.2 k).toInt < d_te (GD G) (k % d_v (GD G)) by omega)]; rfl
        rw [this]; rfl
      · rw [if_neg cc, if_pos rfl]
        have : bdB (GD G) q k = true := by
          unfold bdB
          by_cases c5 : 0 ≤ (q.2.2 k).toInt
          · rw [decide_eq_true c5, decide_eq_false (show ¬ (q.2.2 k).toInt < d_te (GD G) (k % d_v (GD G)) from fun z => cc ⟨c5, by omega⟩)]; rfl
          · rw [decide_eq_false c5]; rfl
        rw [this]; rfl
theorem seen_r (a b : Int32) (hW : WFG G) (h : RepR σ G) : fX12_wrongRows 31 a b σ = some (match seS a b G with
    | Sum.inl x => x
    | Sum.inr _ => 0, σ) := by
  have hd := hW.d.1
  unfold fX12_wrongRows seS
  rcases ix_cases (n := 4) (by decide) a with ⟨ei, ha⟩ | ⟨t, ht, rfl, ei⟩ <;> rw [ei]
  · rw [isTray_r0 ha, c_I_s, if_pos rfl]
  · rw [isTray_r1 ht, c_I_s, if_neg (by decide)]
    dsimp only
    rcases sx_cases (n := 15) (by decide) b with ⟨ej, hb⟩ | ⟨r, hr1, hr, rfl, ej⟩ <;> rw [ej]
    · rw [from1_0 (n := 15) (by decide) rfl hb, c_I_s, if_pos rfl]
    · dsimp only
      rw [from1_1 (n := 15) (by decide) rfl hr1 hr, c_I_s, if_neg (by decide), g_ar_n ht (by decide)]
      have htr := h.2.1 t ht
      cases hy : g_y G t with
      | none =>
        rw [hy] at htr
        rw [show m_ar σ 31 3 t = -1 from htr, if_pos rfl]
      | some q =>
        have hq60 := (hW.1 t ht q hy).2
        rw [hy] at htr
        have hm := mul_b hr hd.2.1
        rw [htr.2.1, if_neg (nI_nem (by omega)), g_ar_n ht (by decide), htr.2.1, show g_ar σ 31 0 2950 (1 : Int32) = g_ar σ 31 0 2950 (nI 1) from rfl, g_ar_n (by decide) (by decide), show m_ar σ 31 0 1 = nI (d_v (GD G)) from h.pl.1.2.1, nI_mul, ifle_n (by omega) (by omega)]
        dsimp only
        by_cases c : q.2.1 < r * d_v (GD G)
        · rw [if_pos c, if_neg (by omega)]
        · have ho := wr_l (r := r) hW h ht hy hr (by omega) FU 0 (by omega) (FU_gt (by omega))
          rw [Nat.sub_zero] at ho
          rw [if_neg c, if_pos (by omega)]
          refine Eq.trans ho ?_
          cases (ffF (bdB (GD G) q) (r * d_v (GD G)) 0).isNone <;> rfl
theorem se_in {a b : Int32} {t r : Nat} {q : TQ} (h : seS a b G = Sum.inr (t, r, q)) : t < 4 ∧ a = nI t ∧ 1 ≤ r ∧ r ≤ 15 ∧ b = nI r ∧ g_y G t = some q ∧ r * d_v (GD G) ≤ q.2.1 := by
  unfold seS at h
  rcases ix_cases (n := 4) (by decide) a with ⟨ei, ha⟩ | ⟨t', ht, rfl, ei⟩ <;> rw [ei] at h
  · cases h
  · rcases sx_cases (n := 15) (by decide) b with ⟨ej, hb⟩ | ⟨r', hr1, hr, rfl, ej⟩ <;> rw [ej] at h
    · cases h
    · dsimp only at h
      cases hy : g_y G t' with
      | none => rw [hy] at h; cases h
      | some q' =>
        rw [hy] at h
        dsimp only at h
        by_cases c : q'.2.1 < r' * d_v (GD G)
        · rw [if_pos c] at h; cases h
        · rw [if_neg c] at h
          by_cases c2 : (ffF (bdB (GD G) q') (r' * d_v (GD G)) 0).isNone = true
          · rw [if_pos c2] at h
            cases h
            exact ⟨ht, rfl, hr1, hr, rfl, hy, by omega⟩
          · rw [if_neg c2] at h; cases h
theorem se_0 {a b : Int32} {x : Int32} (h : seS a b G = Sum.inl x) : x = 1 ∨ x = 2 ∨ x = 3 ∨ x = 5 := by
  unfold seS at h
  repeat' split at h
  all_goals first | (cases h; decide) | cases h
/-! rows that come as seen -/
theorem cs_i {p t r : Nat} {q : TQ} {x : Int32} {K : Int32 → Mm → Option (Int32 × Mm)} (hW : WFG G) (h : RepC σ G) (wk : WkC σ p 11 (GD G) V) (hV : WFV (GD G) V) (ht : t < 4) (hy : g_y G t = some q) (hr : r ≤ 15) (hq : (r + 1) * d_v (GD G) ≤ q.2.1) : ∀ (n v : Nat), v ≤ d_v (GD G) → d_v (GD G) - v < n → fX11_comesAsSeen_19 0 (15 + t) x K n (nI r) (nI v) σ = if (ffF (neB (GD G) q r V) (d_v (GD G) - v) v).isNone then K (nI (r + 1)) σ else some (0, σ) := by
  intro n
  induction n with
  | zero => intro v _ h; omega
  | succ n ih =>
    intro v hv hn
    have hd := hW.d.1
    have hq60 := (hW.1 t ht q hy).2
    have htr := h.2.1 t ht
    rw [hy] at htr
    obtain ⟨p, -, e, hk, hp⟩ := h.pl
    have hm := mul_b hr hd.2.1
    rw [Nat.succ_mul] at hq
    rw [fX11_comesAsSeen_19, show tg 0 9 = 4 from rfl, r_rf_e e hk, r_sc_s, hp.1.2.1, ifle_n (by omega) (by omega)]
    by_cases c : d_v (GD G) ≤ v
    · rw [if_pos c, nI_s, show d_v (GD G) - v = 0 by omega]; rfl
    · have hv' : v < d_v (GD G) := by omega
      have hb := hW.d.2.1 v hv'
      have hpt := hV.2.1 v hv'
      rw [if_neg c, r_rf_e e hk, r_sc_s, hp.1.2.1, nI_mul, nI_ad, g_la_n (by omega) (by decide), htr.2.2 _ (by omega), nI_s, show tg 0 15 = 11 from rfl, g_ar_n (by omega) (by decide), (wk.2.2.1.2.1 v hv').1, show d_v (GD G) - v = (d_v (GD G) - (v + 1)) + 1 by omega, ffN_1]
      have ih := ih (v + 1) (by omega) (by omega)
      by_cases c1 : (q.2.2 (r * d_v (GD G) + v)).toInt = (v_pt V v : Int)
      · rw [if_pos ((lgc_0 _ _).mpr (by rw [nI_L (by omega)]; exact c1)), show neB (GD G) q r V v = false by unfold neB; rw [beq_iff_eq.mpr c1]; rfl]
        exact ih
      · rw [if_neg (fun z => c1 (by have := (lgc_0 _ _).mp z; rw [nI_L (by omega)] at this; exact this)), show neB (GD G) q r V v = true by unfold neB; rw [beq_eq_false_iff_ne.mpr c1]; rfl]; rfl
theorem cs_o {p t R : Nat} {q : TQ} {sk : Int32} (hW : WFG G) (ht : t < 4) (hy : g_y G t = some q) (hR : R ≤ 15) (hq : R * d_v (GD G) ≤ q.2.1) : ∀ (n r : Nat) (M : MTq) (σ : Mm), r ≤ R → R - r < n → RepC σ G → WFV (GD G) M.1 → WkC σ p 11 (GD G) M.1 → CtC σ sk M.2 → M.2.2.1 + 64 * (R - r) < 400000000 → M.2.1 + 64 * (R - r) < 400000000 → ∃ τ, fX11_comesAsSeen_2 0 (15 + t) (nI R) n (nI r) σ = some (if csB (GD G) q (R - r) r M then 1 else 0, τ) ∧ RepC τ G := by
  intro n
  induction n with
  | zero => intro r M σ _ h; omega
  | succ n ih =>
    intro r M σ hr hn h hV wk hc hC1 hC2
    have hd := hW.d.1
    rw [fX11_comesAsSeen_2, ifle_n (by omega) (by omega)]
    by_cases c : R ≤ r
    · rw [if_pos c, show R - r = 0 by omega]
      exact ⟨σ, rfl, h⟩
    · obtain ⟨τ, e, r1, r2, r3, r4⟩ := goOn_c (Q := 1) (sk := sk) hW.d (by decide) hV wk hc (by omega) (by omega)
      have hle := qtM_le (M := M) hW.d
      have eq : qnM (GD G) 1 M = qtM (GD G) M := rfl
      rw [eq] at r1 r2 r3
      have h2 : RepC τ G := h.cm hW (fun q _ h1 h2 => r4 q h1 h2)
      have hi := cs_i (x := nI R) (K := fX11_comesAsSeen_2 0 (15 + t) (nI R) n) hW h2 r2 r1 ht hy (r := r) (by omega) (Nat.le_trans (Nat.mul_le_mul_right _ (by omega)) hq) FU 0 (by omega) (FU_gt (by omega))
      rw [if_neg c, show tg 0 14 = 10 from rfl, show (1 : Int32) = nI 1 from rfl, e, c_I_s, show (0 : Int32) = nI 0 from rfl, hi, show R - r = (R - (r + 1)) + 1 by omega, csB, Nat.sub_zero, show (fsF (neB (GD G) q r (qtM (GD G) M).1) (d_v (GD G))) = ffF (neB (GD G) q r (qtM (GD G) M).1) (d_v (GD G)) 0 from rfl]
      cases (ffF (neB (GD G) q r (qtM (GD G) M).1) (d_v (GD G)) 0).isNone
      · exact ⟨τ, rfl, h2⟩
      · obtain ⟨ω, f, h3⟩ := ih (r + 1) (qtM (GD G) M) τ (by omega) (by omega) h2 r1 r2 r3 (by omega) (by omega)
        exact ⟨ω, f, h3⟩
theorem cas_c {p t R : Nat} {q : TQ} {sk : Int32} (hW : WFG G) (h : RepC σ G) (ht : t < 4) (hy : g_y G t = some q) (hR : R ≤ 15) (hq : R * d_v (GD G) ≤ q.2.1) (hV : WFV (GD G) V) (wk : WkC σ p 11 (GD G) V) (hc : CtC σ sk C0) : ∃ τ, fX11_comesAsSeen 0 (15 + t) (nI R) σ = some (if csB (GD G) q R 0 (V, C0) then 1 else 0, τ) ∧ RepC τ G :=
  cs_o (p := p) (sk := sk) hW ht hy hR hq FU 0 (V, C0) σ (by omega) (FU_gt (by omega)) h hV wk hc (by show 0 + 64 * (R - 0) < _; omega) (by show 0 + 64 * (R - 0) < _; omega)
theorem is_i {t r : Nat} {q : TQ} {x y : Int32} {K : Int32 → Mm → Option (Int32 × Mm)} (hW : WFG G) (h : RepR σ G) (wk : WkR σ (GD G) V) (hV : WFV (GD G) V) (ht : t < 4) (hy : g_y G t = some q) (hr : r ≤ 15) (hq : (r + 1) * d_v (GD G) ≤ q.2.1) : ∀ (n v : Nat), v ≤ d_v (GD G) → d_v (GD G) - v < n → fX12_isSeen_36 31 (nI t) x y K n (nI r) (nI v) σ = if (ffF (neB (GD G) q r V) (d_v (GD G) - v) v).isNone then K (nI (r + 1)) σ else some (0, σ) := by
  intro n
  induction n with
  | zero => intro v _ h; omega
  | succ n ih =>
    intro v hv hn
    have hd := hW.d.1
    have hq60 := (hW.1 t ht q hy).2
    have htr := h.2.1 t ht
    rw [hy] at htr
    have hm := mul_b hr hd.2.1
    rw [Nat.succ_mul] at hq
    rw [fX12_isSeen_36, show g_ar σ 31 0 2950 (1 : Int32) = g_ar σ 31 0 2950 (nI 1) from rfl, g_ar_n (by decide) (by decide), wk.1.2.1, ifle_n (by omega) (by omega)]
    by_cases c : d_v (GD G) ≤ v
    · rw [if_pos c, nI_s, show d_v (GD G) - v = 0 by omega]; rfl
    · have hv' : v < d_v (GD G) := by omega
      have hb := hW.d.2.1 v hv'
      have hpt := hV.2.1 v hv'
      rw [if_neg c, g_ar_n (by decide) (by decide), wk.1.2.1, nI_mul, ln_60, nI_mul, nI_ad, nI_ad, show 60 * t + r * d_v (GD G) + v = 60 * t + (r * d_v (GD G) + v) by omega, g_la_n (by omega) (by decide), htr.2.2 _ (by omega), nI_s, va3 hW.d wk hv', c_I_s, show d_v (GD G) - v = (d_v (GD G) - (v + 1)) + 1 by omega, ffN_1]
      have ih := ih (v + 1) (by omega) (by omega)
      by_cases c1 : (q.2.2 (r * d_v (GD G) + v)).toInt = (v_pt V v : Int)
      · rw [if_pos ((lgc_0 _ _).mpr (by rw [nI_L (by omega)]; exact c1)), show neB (GD G) q r V v = false by unfold neB; rw [beq_iff_eq.mpr c1]; rfl]
        exact ih
      · rw [if_neg (fun z => c1 (by have := (lgc_0 _ _).mp z; rw [nI_L (by omega)] at this; exact this)), show neB (GD G) q r V v = true by unfold neB; rw [beq_eq_false_iff_ne.mpr c1]; rfl]; rfl
theorem is_o {t R : Nat} {q : TQ} {y : Int32} (hW : WFG G) (ht : t < 4) (hy : g_y G t = some q) (hR : R ≤ 15) (hq : R * d_v (GD G) ≤ q.2.1) : ∀ (n r u : Nat) (M : MTq) (σ : Mm), r ≤ R → R - r < n → RepR σ G → WFV (GD G) M.1 → WkR σ (GD G) M.1 → CtR σ M.2 → M.2.2.1 + 64 * (R - r) < 400000000 → m_ar σ 31 0 2453 = nI u → u ≤ 9999 → ∃ τ, fX12_isSeen_19 31 (nI t) (nI R) y n (nI r) σ = some (if csB (GD G) q (R - r) r M then 1 else 0, τ) ∧ RepR τ G := by
  intro n
  induction n with
  | zero => intro r u M σ _ h; omega
  | succ n ih =>
    intro r u M σ hr hn h hV wk hc hC hu hu9
    have hd := hW.d.1
    rw [fX12_isSeen_19, ifle_n (by omega) (by omega)]
    by_cases c : R ≤ r
    · rw [if_pos c, show R - r = 0 by omega]
      exact ⟨σ, rfl, h⟩
    · obtain ⟨τ, e, r1, r2, r3, r4, r5, r6⟩ := quarterGoes_r hW.d hV wk hc (by omega) hu hu9
      have hle := qtM_le (M := M) hW.d
      obtain ⟨z, hz⟩ : ∃ z : Int32, z = (if (fsF (dvB (GD G) M.1) (d_v (GD G))).isNone = true then 0 else 1) := ⟨_, rfl⟩
      have hz2 : z = 0 ∨ z = 1 := by rw [hz]; cases (fsF (dvB (GD G) M.1) (d_v (GD G))).isNone <;> simp
      have r2' : WkR (w_sc τ 31 29 z) (GD G) (qtM (GD G) M).1 := r2
      have h2 : RepR (w_sc τ 31 29 z) G := h.rb hW (r4.tr (RT.s (by omega) (by omega))).b
      have hi := is_i (x := nI R) (y := y) (K := fX12_isSeen_19 31 (nI t) (nI R) y n) hW h2 r2' r1 ht hy (r := r) (by omega) (Nat.le_trans (Nat.mul_le_mul_right _ (by omega)) hq) FU 0 (by omega) (FU_gt (by omega))
      rw [if_neg c, e, c_I_s, ← hz, p_bz_y hz2, show (0 : Int32) = nI 0 from rfl, hi, show R - r = (R - (r + 1)) + 1 by omega, csB, Nat.sub_zero, show (fsF (neB (GD G) q r (qtM (GD G) M).1) (d_v (GD G))) = ffF (neB (GD G) q r (qtM (GD G) M).1) (d_v (GD G)) 0 from rfl]
      cases (ffF (neB (GD G) q r (qtM (GD G) M).1) (d_v (GD G)) 0).isNone
      · exact ⟨_, rfl, h2⟩
      · obtain ⟨ω, f, h3⟩ := ih (r + 1) (min (u + 1) 9999) (qtM (GD G) M) (w_sc τ 31 29 z) (by omega) (by omega) h2 r1 r2' ⟨by rw [m_sc_sc, if_neg (by decide)]; exact r3.1, by rw [m_sc_sc, if_neg (by decide)]; exact r3.2.1, r3.2.2⟩ (by omega) r6 (Nat.min_le_right _ _)
        exact ⟨ω, f, h3⟩
theorem cas_r {t R l : Nat} {q : TQ} (hW : WFG G) (h : RepR σ G) (ht : t < 4) (hy : g_y G t = some q) (hR : R ≤ 15) (hq : R * d_v (GD G) ≤ q.2.1) (hl : v_li (GV G) ||| l < 2 ^ d_s (GD G)) : ∃ τ, fX12_isSeen 31 (nI t) (nI R) (nI l) σ = some (if csB (GD G) q R 0 (vL (GV G) (v_li (GV G) ||| l), C0) then 1 else 0, τ) ∧ RepR τ G := by
  obtain ⟨τ, e, wk, rb, qu, hc, -⟩ := bg1_r hW h
  unfold fX12_isSeen
  rw [e, c_V_s, ln_2454, g_ar_n (by decide) (by decide), wk.2.2.2.2.2.2.1, or_n, s_ar_n (by decide) (by decide)]
  have h2 : RepR (w_ar τ 31 0 2454 (nI (v_li (GV G) ||| l))) G := h.rb hW (rb.tr (RT.w0 (by omega) (by omega)).b)
  exact is_o (y := nI l) hW ht hy hR hq FU 0 (v_qu (GV G)) (vL (GV G) (v_li (GV G) ||| l), C0) _ (by omega) (FU_gt (by omega)) h2 (hW.v.vL hl) (wk.vL hW.d) hc.w0 (by show 0 + 64 * (R - 0) < _; omega) (by rw [m_ar_ar, if_neg (by decide)]; exact qu) hW.v.2.2.2.2.2
theorem whole_c (a b : Int32) (hW : WFG G) (h : RepC σ G) : OC (fX11_whole 0 a b σ) (spWh a b G) := by
  have hd := hW.d.1
  unfold fX11_whole spWh
  rw [seen_c a b hW h, c_I_s]
  cases hs : seS a b G with
  | inl x =>
    rw [if_neg (by rcases se_0 hs with rfl | rfl | rfl | rfl <;> decide)]
    exact OC.non hW h _
  | inr z =>
    obtain ⟨t, r, q⟩ := z
    obtain ⟨ht, rfl, hr1, hr, rfl, hy, hq⟩ := se_in hs
    dsimp only
    rw [if_pos rfl]
    obtain ⟨τ, p, e, wk, hc, bu, e4⟩ := look_c hW h
    rw [e, c_V_s]
    have h2 : RepC τ G := h.cm hW (fun q _ h1 h2 => bu q h1 h2)
    obtain ⟨ω, f, h3⟩ := cas_c hW h2 ht hy hr hq hW.v wk hc
    rw [g_bl_n ht (by decide), show ra 0 t = 15 + t from rfl, f, c_I_s]
    cases csB (GD G) q r 0 (GV G, C0)
    · exact OC.ans hW h3 _
    · exact OC.ans hW h3 _
theorem whole_r (a b : Int32) (hW : WFG G) (h : RepR σ G) : OR (fX12_whole 31 a b σ) (spWh a b G) := by
  have hd := hW.d.1
  unfold fX12_whole spWh
  rw [seen_r a b hW h, c_I_s]
  cases hs : seS a b G with
  | inl x =>
    rw [if_neg (by rcases se_0 hs with rfl | rfl | rfl | rfl <;> decide)]
    exact OR.non hW h _
  | inr z =>
    obtain ⟨t, r, q⟩ := z
    obtain ⟨ht, rfl, hr1, hr, rfl, hy, hq⟩ := se_in hs
    dsimp only
    rw [if_pos (by decide)]
    obtain ⟨ω, f, h3⟩ := cas_r (l := 0) hW h ht hy hr hq (by rw [Nat.or_zero]; exact hW.v.2.2.2.1)
    rw [Nat.or_zero] at f
    have f : fX12_isSeen 31 (nI t) (nI r) (0 : Int32) σ = some (if csB (GD G) q r 0 (GV G, C0) then 1 else 0, ω) := f
    rw [f, c_I_s]
    cases csB (GD G) q r 0 (GV G, C0)
    · exact OR.ans hW h3 _
    · exact OR.ans hW h3 _
def brB (G : GS) (q : TQ) (r s : Nat) : Bool := !(v_li (GV G)).testBit s && csB (GD G) q r 0 (vL (GV G) (v_li (GV G) ||| 2 ^ s), C0)
theorem br_lc {t r : Nat} {q : TQ} (hW : WFG G) (ht : t < 4) (hy : g_y G t = some q) (hr : r ≤ 15) (hq : r * d_v (GD G) ≤ q.2.1) : ∀ (n i : Nat) (σ : Mm), i ≤ d_s (GD G) → d_s (GD G) - i < n → RepC σ G → OC (fX11_broken_23 0 (nI t) (nI r) n (nI (bsN (brB G q r) i)) (nI i) σ) (nI (bsN (brB G q r) (d_s (GD G))), stq 0 G) := by
  intro n
  induction n with
  | zero => intro i σ _ h; omega
  | succ n ih =>
    intro i σ hi hn h
    have hd := hW.d.1
    obtain ⟨p0, -, e0, k0, hp0⟩ := h.pl
    rw [fX11_broken_23, show tg 0 9 = 4 from rfl, r_rf_e e0 k0, r_sc_s, hp0.1.2.2, ifle_n (by omega) (by omega)]
    by_cases c : d_s (GD G) ≤ i
    · have : i = d_s (GD G) := by omega
      subst this
      rw [if_pos c]
      exact OC.ans hW h _
    · rw [if_neg c, show tg 4 1 = 6 from rfl, r_sc_s, h.sv.2.2.2.1, has_e (li_b hW.d hW.v) (by omega), c_I_s]
      have ih := ih (i + 1)
      cases hb : (v_li (GV G)).testBit i
      · rw [if_neg (show ¬ (false = true) by decide), if_pos rfl]
        obtain ⟨τ, p, e, wk, hc, bu, e4⟩ := look_c hW h
        have hl : v_li (GV G) ||| 2 ^ i < 2 ^ d_s (GD G) := or_lt hW.v.2.2.2.1 (by omega)
        have h2 : RepC (w_sc τ 11 6 (nI (v_li (GV G) ||| 2 ^ i))) G := h.cm hW (fun q _ h1 h2 => (bu q h1 h2).tr (BU.sc h2))
        rw [e, c_V_s, show tg 0 15 = 11 from rfl, r_sc_s, wk.2.2.1.2.2.2.1, with_e (by omega), c_I_s, show wiN (v_li (GV G)) i (decide ((1 : Int32) ≠ 0)) = v_li (GV G) ||| 2 ^ i from rfl, p_sc_s, g_bl_n ht (by decide), show ra 0 t = 15 + t from rfl]
        obtain ⟨π, f2, h3⟩ := cas_c hW h2 ht hy hr hq (hW.v.vL hl) wk.vL (hc.sc (s := 11) (k := 6) (x := nI (v_li (GV G) ||| 2 ^ i)) (by decide))
        rw [f2, c_I_s, nI_s]
        have ih := ih π (by omega) (by omega) h3
        cases hcs : csB (GD G) q r 0 (vL (GV G) (v_li (GV G) ||| 2 ^ i), C0)
        · rw [bs_f (by unfold brB; rw [hcs]; simp)] at ih
          rw [if_pos (show (if false = true then (1 : Int32) else 0) = 0 from rfl)]
          exact ih
        · rw [bs_t (by unfold brB; rw [hcs, hb]; rfl)] at ih
          rw [if_neg (show ¬ (if true = true then (1 : Int32) else 0) = 0 by decide), with_e (by omega), c_I_s]
          exact ih
      · rw [bs_f (by unfold brB; rw [hb]; rfl)] at ih
        rw [if_pos rfl, if_neg (by decide), nI_s]
        exact ih σ (by omega) (by omega) h
theorem br_lr {t r : Nat} {q : TQ} (hW : WFG G) (ht : t < 4) (hy : g_y G t = some q) (hr : r ≤ 15) (hq : r * d_v (GD G) ≤ q.2.1) : ∀ (n i : Nat) (σ : Mm), i ≤ d_s (GD G) → d_s (GD G) - i < n → RepR σ G → OR (fX12_broken_23 31 (nI t) (nI r) n (nI (bsN (brB G q r) i)) (nI i) σ) (nI (bsN (brB G q r) (d_s (GD G))), stq 0 G) := by
  intro n
  induction n with
  | zero => intro i σ _ h; omega
  | succ n ih =>
    intro i σ hi hn h
    have hd := hW.d.1
    rw [fX12_broken_23, show g_ar σ 31 0 2950 (2 : Int32) = g_ar σ 31 0 2950 (nI 2) from rfl, g_ar_n (by decide) (by decide), show m_ar σ 31 0 2 = nI (d_s (GD G)) from h.pl.1.2.2, ifle_n (by omega) (by omega)]
    by_cases c : d_s (GD G) ≤ i
    · have : i = d_s (GD G) := by omega
      subst this
      rw [if_pos c]
      exact OR.ans hW h _
    · rw [if_neg c, show g_ar σ 31 0 2950 (4 : Int32) = g_ar σ 31 0 2950 (nI 4) from rfl, g_ar_n (by decide) (by decide), show m_ar σ 31 0 4 = nI (v_li (GV G)) from h.sv.2.2.2.1, has_n (li_b hW.d hW.v) (by omega)]
      have ih := ih (i + 1)
      cases hb : (v_li (GV G)).testBit i
      · rw [if_pos (show (if false = true then (1 : Int32) else 0) = 0 from rfl)]
        have hl : v_li (GV G) ||| 2 ^ i < 2 ^ d_s (GD G) := or_lt hW.v.2.2.2.1 (by omega)
        obtain ⟨π, f2, h3⟩ := cas_r (l := 2 ^ i) hW h ht hy hr hq hl
        rw [sh1 (by omega), f2, c_I_s, nI_s]
        have ih := ih π (by omega) (by omega) h3
        cases hcs : csB (GD G) q r 0 (vL (GV G) (v_li (GV G) ||| 2 ^ i), C0)
        · rw [bs_f (by unfold brB; rw [hcs]; simp)] at ih
          rw [if_pos (show (if false = true then (1 : Int32) else 0) = 0 from rfl), show (0 : Int32) = nI 0 from rfl, or_n, Nat.or_zero]
          exact ih
        · rw [bs_t (by unfold brB; rw [hcs, hb]; rfl)] at ih
          rw [if_neg (show ¬ (if true = true then (1 : Int32) else 0) = 0 by decide), or_n]
          exact ih
      · rw [bs_f (by unfold brB; rw [hb]; rfl)] at ih
        rw [if_neg (show ¬ (if true = true then (1 : Int32) else 0) = 0 by decide), show (0 : Int32) = nI 0 from rfl, or_n, Nat.or_zero, nI_s]
        exact ih σ (by omega) (by omega) h
theorem broken_c (a b : Int32) (hW : WFG G) (h : RepC σ G) : OC (fX11_broken 0 a b σ) (spBr a b G) := by
  have hd := hW.d.1
  unfold fX11_broken spBr
  rw [seen_c a b hW h, c_I_s]
  cases hs : seS a b G with
  | inl x =>
    rw [if_neg (by rcases se_0 hs with rfl | rfl | rfl | rfl <;> decide)]
    exact OC.non hW h _
  | inr z =>
    obtain ⟨t, r, q⟩ := z
    obtain ⟨ht, rfl, hr1, hr, rfl, hy, hq⟩ := se_in hs
    dsimp only
    rw [if_pos rfl]
    exact br_lc hW ht hy hr hq FU 0 σ (by omega) (FU_gt (by omega)) h
theorem broken_r (a b : Int32) (hW : WFG G) (h : RepR σ G) : OR (fX12_broken 31 a b σ) (spBr a b G) := by
  have hd := hW.d.1
  unfold fX12_broken spBr
  rw [seen_r a b hW h, c_I_s]
  cases hs : seS a b G with
  | inl x =>
    rw [if_neg (by rcases se_0 hs with rfl | rfl | rfl | rfl <;> decide)]
    exact OR.non hW h _
  | inr z =>
    obtain ⟨t, r, q⟩ := z
    obtain ⟨ht, rfl, hr1, hr, rfl, hy, hq⟩ := se_in hs
    dsimp only
    rw [if_pos (by decide)]
    exact br_lr hW ht hy hr hq FU 0 σ (by omega) (FU_gt (by omega)) h
theorem whole_s (a : Int32) (b : Int32) (σ : Mm) (h : Rel σ) : ok (fX11_whole 0 a b σ) (fun q => ok (fX12_whole 31 a b q.2) (fun q' => q'.1 = q.1 ∧ Rel q'.2)) :=
  simS (fc := fX11_whole 0 a b) (fr := fX12_whole 31 a b) (ks := [0, 1, 2, 3, 4, 5, 6, 7, 8, 9, 10, 11]) (by decide) (spWh a b) (fun σ G => whole_c a b) (fun σ G => whole_r a b) (fun G hW => by unfold spWh; repeat (first | exact hW | split)) (fun σ x τ ee => F_sub (frX11_whole 0 a b (by decide) σ ee) (by decide)) (fun σ x τ ee => F_sub (frX12_whole 31 a b (by decide) σ ee) (by decide)) σ h
theorem broken_s (a : Int32) (b : Int32) (σ : Mm) (h : Rel σ) : ok (fX11_broken 0 a b σ) (fun q => ok (fX12_broken 31 a b q.2) (fun q' => q'.1 = q.1 ∧ Rel q'.2)) :=
  simS (fc := fX11_broken 0 a b) (fr := fX12_broken 31 a b) (ks := [0, 1, 2, 3, 4, 5, 6, 7, 8, 9, 10, 11]) (by decide) (spBr a b) (fun σ G => broken_c a b) (fun σ G => broken_r a b) (fun G hW => by unfold spBr; repeat (first | exact hW | split)) (fun σ x τ ee => F_sub (frX11_broken 0 a b (by decide) σ ee) (by decide)) (fun σ x τ ee => F_sub (frX12_broken 31 a b (by decide) σ ee) (by decide)) σ h
end O
