/-! PURE 45: a village's text, plainly; the class reads it -/
def updI (f : Nat → Int64) (i : Nat) (w : Int64) : Nat → Int64 := fun k => if k = i then w else f k
def updN (f : Nat → Nat) (i x : Nat) : Nat → Nat := fun k => if k = i then x else f k
def dPl (D : PD) (w : Int64) : PD := ((d_p D + 1, d_v D, d_s D), D.2.1, D.2.2.1, (updI (d_np D) (d_p D) w, d_nv D, d_ns D))
def dVa (D : PD) (w : Int64) (te ho st : Nat) : PD := ((d_p D, d_v D + 1, d_s D), (updN (d_te D) (d_v D) te, updN (d_ho D) (d_v D) ho, updN (d_st D) (d_v D) st), D.2.2.1, (d_np D, updI (d_nv D) (d_v D) w, d_ns D))
def dSh (D : PD) (w : Int64) (fs sn sl : Nat) (b : Bool) : PD := ((d_p D, d_v D, d_s D + 1), D.2.1, (updN (d_fs D) (d_s D) fs, updN (d_sn D) (d_s D) sn, updN (d_sl D) (d_s D) sl, fun k => if k = d_s D then b else d_be D k), (d_np D, d_nv D, updI (d_ns D) (d_s D) w))
def sF2 (X : TX) (f : Nat → Int64) (n a p : Nat) : RZ (Nat × Nat) := if isNm X p = true ∧ ixN f n (tw X p) = a then .error (5, tA X p) else sFd X f n p
abbrev V3 : Type := PD × (Nat → Nat) × Nat
def spPl (X : TX) (D : PD) (S : Nat → Nat) (p : Nat) : RZ V3 := eb (sNw X D (tE X p)) fun p2 => eb (sSg X p2) fun p3 => .ok (dPl D (tw X (tE X p)), S, p3)
def spVa (X : TX) (D : PD) (S : Nat → Nat) (p : Nat) : RZ V3 := eb (sNw X D (tE X p)) fun p2 => eb (sKw X 2 p2) fun p3 => eb (sNu X 4 60 p3) fun t => eb (sKw X 3 t.2) fun p5 => eb (sFd X (d_np D) (d_p D) p5) fun h => eb (sOp X 4 99 h.2) fun s => eb (sOp X 5 (t.1 - 1) s.2) fun r => eb (sSg X r.2) fun p9 => .ok (dVa D (tw X (tE X p)) t.1 h.1 s.1, updN S (d_v D) r.1, p9)
def spSh (X : TX) (D : PD) (S : Nat → Nat) (p : Nat) (b : Bool) : RZ V3 := eb (sNw X D (tE X p)) fun p2 => eb (sKw X 8 p2) fun p3 => eb (sFd X (d_nv D) (d_v D) p3) fun f => eb (sF2 X (d_nv D) (d_v D) f.1 f.2) fun g => eb (sOp X 9 9 g.2) fun l => eb (sSg X l.2) fun p7 => .ok (dSh D (tw X (tE X p)) f.1 g.1 l.1 b, S, p7)
def spPt (X : TX) (D : PD) (S : Nat → Nat) (p : Nat) : RZ V3 := if tW X p = 0 then (if d_p D < 4 then spPl X D S p else .error (6, tA X p)) else if tW X p = 1 then (if d_v D < 8 then spVa X D S p else .error (6, tA X p)) else if tW X p = 6 then (if d_s D < 10 then spSh X D S p false else .error (6, tA X p)) else if tW X p = 7 then (if d_s D < 10 then spSh X D S p true else .error (6, tA X p)) else .error (rT X p)
def spVi (X : TX) : Nat → PD → (Nat → Nat) → Nat → RZ (PD × (Nat → Nat))
  | 0, _, _, _ => .error (1, 0)
  | n + 1, D, S, p => if tK X p = 0 then .ok (D, S) else eb (spPt X D S p) fun r => spVi X n r.1 r.2.1 r.2.2
def smD (D : PD) : Nat := d_p D + d_v D + d_s D
def WFs (D : PD) (S : Nat → Nat) : Prop := WFD D ∧ ∀ v, v < d_v D → S v < d_te D v
theorem eb_ok {α β : Type} {r : RZ α} {k : α → RZ β} {b : β} (h : eb r k = .ok b) : ∃ a, r = .ok a ∧ k a = .ok b := by
  cases r with
  | error f => cases h
  | ok a => exact ⟨a, rfl, h⟩
theorem sNu_ok {X : TX} {lo hi p : Nat} {a : Nat × Nat} (h : sNu X lo hi p = .ok a) : lo ≤ a.1 ∧ a.1 ≤ hi := by
  unfold sNu at h
  split at h
  · split at h
    · rename_i q; injection h with h; rw [← h]; exact q
    · cases h
  · cases h
theorem sOp_ok {X : TX} {k hi p : Nat} {a : Nat × Nat} (h : sOp X k hi p = .ok a) : a.1 ≤ hi := by
  unfold sOp at h
  split at h
  · exact (sNu_ok h).2
  · injection h with h; rw [← h]; exact Nat.zero_le _
theorem sFd_ok {X : TX} {f : Nat → Int64} {n p : Nat} {a : Nat × Nat} (h : sFd X f n p = .ok a) : a.1 < n ∧ isNm X p = true ∧ a = (ixN f n (tw X p), tE X p) := by
  unfold sFd at h
  split at h
  · split at h
    · rename_i q1 q; injection h with h; rw [← h]; exact ⟨q, q1, rfl⟩
    · cases h
  · cases h
theorem sF2_ok {X : TX} {f : Nat → Int64} {n b p : Nat} {a : Nat × Nat} (h : sF2 X f n b p = .ok a) : a.1 < n ∧ a.1 ≠ b := by
  unfold sF2 at h
  split at h
  · cases h
  · rename_i q
    obtain ⟨h1, h2, h3⟩ := sFd_ok h
    exact ⟨h1, fun e => q ⟨h2, by rw [h3] at e; exact e⟩⟩
theorem updN_e (f : Nat → Nat) (i x : Nat) : updN f i x i = x := if_pos rfl
theorem updN_n {f : Nat → Nat} {i x k : Nat} (h : k ≠ i) : updN f i x k = f k := if_neg h
theorem updI_e (f : Nat → Int64) (i : Nat) (x : Int64) : updI f i x i = x := if_pos rfl
theorem updI_n {f : Nat → Int64} {i : Nat} {x : Int64} {k : Nat} (h : k ≠ i) : updI f i x k = f k := if_neg h
theorem dPl_w {D : PD} {S : Nat → Nat} {w : Int64} (h : WFs D S) (hn : d_p D < 4) : WFs (dPl D w) S := by
  obtain ⟨⟨⟨a1, a2, a3⟩, b, c⟩, d⟩ := h
  refine ⟨⟨⟨hn, a2, a3⟩, fun v hv => ?_, c⟩, d⟩
  have := b v hv
  exact ⟨this.1, this.2.1, by show d_ho D v < d_p D + 1; omega, this.2.2.2⟩
theorem dVa_w {D : PD} {S : Nat → Nat} {w : Int64} {te ho st s : Nat} (h : WFs D S) (hn : d_v D < 8) (h1 : 4 ≤ te ∧ te ≤ 60) (h2 : ho < d_p D) (h3 : st ≤ 99) (h4 : s < te) : WFs (dVa D w te ho st) (updN S (d_v D) s) := by
  obtain ⟨⟨⟨a1, a2, a3⟩, b, c⟩, d⟩ := h
  refine ⟨⟨⟨a1, hn, a3⟩, fun v hv => ?_, fun k hk => ?_⟩, fun v hv => ?_⟩
  · have hv : v < d_v D + 1 := hv
    show 4 ≤ updN (d_te D) (d_v D) te v ∧ updN (d_te D) (d_v D) te v ≤ 60 ∧ updN (d_ho D) (d_v D) ho v < d_p D ∧ updN (d_st D) (d_v D) st v ≤ 99
    by_cases e : v = d_v D
    · rw [e, updN_e, updN_e, updN_e]; exact ⟨h1.1, h1.2, h2, h3⟩
    · rw [updN_n e, updN_n e, updN_n e]; exact b v (by omega)
  · obtain ⟨c1, c2, c3, c4⟩ := c k hk
    exact ⟨by show d_fs D k < d_v D + 1; omega, by show d_sn D k < d_v D + 1; omega, c3, c4⟩
  · have hv : v < d_v D + 1 := hv
    show updN S (d_v D) s v < updN (d_te D) (d_v D) te v
    by_cases e : v = d_v D
    · rw [e, updN_e, updN_e]; exact h4
    · rw [updN_n e, updN_n e]; exact d v (by omega)
theorem dSh_w {D : PD} {S : Nat → Nat} {w : Int64} {fs sn sl : Nat} {be : Bool} (h : WFs D S) (hn : d_s D < 10) (h1 : fs < d_v D) (h2 : sn < d_v D) (h3 : sn ≠ fs) (h4 : sl ≤ 9) : WFs (dSh D w fs sn sl be) S := by
  obtain ⟨⟨⟨a1, a2, a3⟩, b, c⟩, d⟩ := h
  refine ⟨⟨⟨a1, a2, hn⟩, b, fun k hk => ?_⟩, d⟩
  have hk : k < d_s D + 1 := hk
  show updN (d_fs D) (d_s D) fs k < d_v D ∧ updN (d_sn D) (d_s D) sn k < d_v D ∧ updN (d_fs D) (d_s D) fs k ≠ updN (d_sn D) (d_s D) sn k ∧ updN (d_sl D) (d_s D) sl k ≤ 9
  by_cases e : k = d_s D
  · rw [e, updN_e, updN_e, updN_e]; exact ⟨h1, h2, fun q => h3 q.symm, h4⟩
  · rw [updN_n e, updN_n e, updN_n e]; exact c k (by omega)
theorem spPt_w {X : TX} {D : PD} {S : Nat → Nat} {p : Nat} {r : V3} (h : WFs D S) (e : spPt X D S p = .ok r) : WFs r.1 r.2.1 ∧ smD r.1 = smD D + 1 := by
  have hsh : ∀ b, d_s D < 10 → spSh X D S p b = .ok r → WFs r.1 r.2.1 ∧ smD r.1 = smD D + 1 := fun b hn q => by
    obtain ⟨p2, -, q⟩ := eb_ok q
    obtain ⟨p3, -, q⟩ := eb_ok q
    obtain ⟨f, hf, q⟩ := eb_ok q
    obtain ⟨g, hg, q⟩ := eb_ok q
    obtain ⟨l, hl, q⟩ := eb_ok q
    obtain ⟨p7, -, q⟩ := eb_ok q
    injection q with q
    rw [← q]
    exact ⟨dSh_w h hn (sFd_ok hf).1 (sF2_ok hg).1 (sF2_ok hg).2 (sOp_ok hl), show d_p D + d_v D + (d_s D + 1) = d_p D + d_v D + d_s D + 1 by omega⟩
  unfold spPt at e
  split at e
  · split at e
    · rename_i hn
      obtain ⟨p2, -, e⟩ := eb_ok e
      obtain ⟨p3, -, e⟩ := eb_ok e
      injection e with e
      rw [← e]
      exact ⟨dPl_w h hn, show d_p D + 1 + d_v D + d_s D = d_p D + d_v D + d_s D + 1 by omega⟩
    · cases e
  · split at e
    · split at e
      · rename_i hn
        obtain ⟨p2, -, e⟩ := eb_ok e
        obtain ⟨p3, -, e⟩ := eb_ok e
        obtain ⟨t, ht, e⟩ := eb_ok e
        obtain ⟨p5, -, e⟩ := eb_ok e
        obtain ⟨hh, hh2, e⟩ := eb_ok e
        obtain ⟨s, hs, e⟩ := eb_ok e
        obtain ⟨rr, hr, e⟩ := eb_ok e
        obtain ⟨p9, -, e⟩ := eb_ok e
        injection e with e
        rw [← e]
        have ht := sNu_ok ht
        exact ⟨dVa_w h hn ht (sFd_ok hh2).1 (sOp_ok hs) (by have := sOp_ok hr; omega), show d_p D + (d_v D + 1) + d_s D = d_p D + d_v D + d_s D + 1 by omega⟩
      · cases e
    · split at e
      · split at e
        · rename_i hn
          exact hsh _ hn e
        · cases e
      · split at e
        · split at e
          · rename_i hn
            exact hsh _ hn e
          · cases e
        · cases e
/-! the class -/
def WV2 (σ : Mm) (pb : Nat) : Prop := m_rf σ 2 0 = some 1 ∧ m_rf σ 2 1 = some pb
def OB (pb : Nat) (σ τ : Mm) : Prop := ∀ b, b ≠ 1 → b ≠ pb → BU b σ τ
def PlS (σ : Mm) (pb : Nat) (D : PD) (S : Nat → Nat) : Prop := PlC σ pb D ∧ ∀ v, v < d_v D → m_ar σ pb 6 v = nI (S v)
def VP (σ : Mm) (pb : Nat) (X : TX) : RZ V3 → Int32 × Mm → Prop
  | .ok r, q => q.1 = 1 ∧ TxC q.2 X r.2.2 ∧ PlS q.2 pb r.1 r.2.1 ∧ OB pb σ q.2
  | .error f, q => q.1 = 0 ∧ ErC q.2 f ∧ OB pb σ q.2
section O
variable {σ τ : Mm} {X : TX} {p pb : Nat} {D : PD} {S : Nat → Nat} {β : Type}
theorem BU.arw {q o j i : Nat} {v : Int32} (h : q ≠ o) : BU q σ (w_ar σ o j i v) := BU.af h
theorem BU.law {q o j i : Nat} {v : Int64} (h : q ≠ o) : BU q σ (w_la σ o j i v) := BU.lf h
theorem k6 : KD 1 = 6 := by decide
theorem OB.rf : OB pb σ σ := fun _ _ _ => BU.rf
theorem OB.tr {ω : Mm} (h : OB pb σ τ) (h2 : OB pb τ ω) : OB pb σ ω := fun b h1 hb => (h b h1 hb).tr (h2 b h1 hb)
theorem OB.t {ω : Mm} (h : OB pb σ τ) (t : T1 τ ω) : OB pb σ ω := fun b h1 hb => (h b h1 hb).tr (t b h1)
theorem OB.ar {j i : Nat} {v : Int32} (h : OB pb σ τ) : OB pb σ (w_ar τ pb j i v) := fun b h1 hb => (h b h1 hb).tr (BU.af hb)
theorem OB.la {j i : Nat} {v : Int64} (h : OB pb σ τ) : OB pb σ (w_la τ pb j i v) := fun b h1 hb => (h b h1 hb).tr (BU.lf hb)
theorem OB.sc {k : Nat} {v : Int32} (h : OB pb σ τ) : OB pb σ (w_sc τ pb k v) := fun b h1 hb => (h b h1 hb).tr (BU.sc hb)
theorem WV2.ob (w : WV2 σ pb) (hpb : 2 ≠ pb) (h : OB pb σ τ) : WV2 τ pb := by
  have := (h 2 (by decide) hpb).2.2.2.2
  exact ⟨(this 0).trans w.1, (this 1).trans w.2⟩
theorem TxC.o (h : TxC σ X p) (b : BU 1 σ τ) : TxC τ X p := by
  obtain ⟨a, ⟨b1, b2⟩, ⟨c1, c2, c3, c4, c5, c6, c7⟩, d1, d2⟩ := h
  obtain ⟨e1, e2, e3, -, -⟩ := b
  exact ⟨a, ⟨(e1 _).trans b1, fun k hk => by rw [e3]; exact b2 k hk⟩, ⟨(e1 _).trans c1, (e1 _).trans c2, (e1 _).trans c3, (e1 _).trans c4, fun q => (e1 _).trans (c5 q), fun q => (e2 _).trans (c6 q), fun q => (e1 _).trans (c7 q)⟩, (e1 _).trans d1, (e1 _).trans d2⟩
theorem PlS.bu (h : PlS σ pb D S) (b : BU pb σ τ) : PlS τ pb D S := ⟨h.1.bu b, fun v hv => by rw [b.2.2.1]; exact h.2 v hv⟩
theorem nI_p {n : Nat} (h : 1 ≤ n) : nI n - 1 = nI (n - 1) := nI_sub (b := 1) h
theorem zC {res : RZ Nat} {k : Nat → RZ β} {r : Option (Int32 × Mm)} {Q : RZ β → Int32 × Mm → Prop} (h : ok r (CR σ X res)) (he : ∀ f τ, ErC τ f → T1 σ τ → Q (.error f) (0, τ)) (hk : ∀ a τ, res = .ok a → TxC τ X a → T1 σ τ → Q (k a) (1, τ)) : ok (c_I r (fun x τ => b_z x τ)) (Q (eb res k)) := by
  obtain ⟨⟨x, τ⟩, rfl, h⟩ := h
  rw [c_I_s]
  cases res with
  | error f =>
    obtain ⟨h1, h2, h3⟩ := h
    have h1 : x = 0 := h1
    subst h1
    exact ok_some (he f τ h2 h3)
  | ok a =>
    obtain ⟨h1, h2, h3⟩ := h
    have h1 : x = 1 := h1
    subst h1
    exact ok_some (hk a τ rfl h2 h3)
/-- a row that is not counted yet may be written -/
theorem PlS.wla {j i : Nat} {w : Int64} (h : PlS σ pb D S) (hj : (j = 0 ∧ d_p D ≤ i) ∨ (j = 1 ∧ d_v D ≤ i) ∨ (j = 2 ∧ d_s D ≤ i)) : PlS (w_la σ pb j i w) pb D S := by
  obtain ⟨⟨a, b, c, d, e, f⟩, g⟩ := h
  refine ⟨⟨a, b, c, fun k hk => ?_, fun k hk => ?_, fun k hk => ?_⟩, g⟩ <;> rw [m_la_la, if_neg (by omega)]
  · exact d k hk
  · exact e k hk
  · exact f k hk
theorem PlS.war {j i : Nat} {w : Int32} (h : PlS σ pb D S) (hj : (j ≤ 6 ∧ d_v D ≤ i) ∨ (7 ≤ j ∧ d_s D ≤ i)) : PlS (w_ar σ pb j i w) pb D S := by
  obtain ⟨⟨a, b, c, d, e, f⟩, g⟩ := h
  refine ⟨⟨a, fun k hk => ?_, fun k hk => ?_, d, e, f⟩, fun k hk => ?_⟩
  · rw [m_ar_ar, if_neg (by omega), m_ar_ar, if_neg (by omega), m_ar_ar, if_neg (by omega)]; exact b k hk
  · obtain ⟨c1, c2, c3, c4⟩ := c k hk
    exact ⟨by rw [m_ar_ar, if_neg (by omega)]; exact c1, by rw [m_ar_ar, if_neg (by omega)]; exact c2, by rw [m_ar_ar, if_neg (show ¬ (pb = pb ∧ 9 = j ∧ k = i) by omega)]; exact c3, by rw [m_ar_ar, if_neg (by omega)]; exact c4⟩
  · rw [m_ar_ar, if_neg (by omega)]; exact g k hk
theorem PlS.aP {w : Int64} (h : PlS σ pb D S) (h0 : m_la σ pb 0 (d_p D) = w) : PlS (w_sc σ pb 0 (nI (d_p D + 1))) pb (dPl D w) S := by
  obtain ⟨⟨⟨a1, a2, a3⟩, b, c, d, e, f⟩, g⟩ := h
  refine ⟨⟨⟨?_, ?_, ?_⟩, b, c, fun k hk => ?_, e, f⟩, g⟩
  · rw [m_sc_sc, if_pos ⟨rfl, rfl⟩]; rfl
  · rw [m_sc_sc, if_neg (by omega)]; exact a2
  · rw [m_sc_sc, if_neg (by omega)]; exact a3
  · have hk : k < d_p D + 1 := hk
    show m_la σ pb 0 k = updI (d_np D) (d_p D) w k
    by_cases q : k = d_p D
    · rw [q, updI_e, h0]
    · rw [updI_n q]; exact d k (by omega)
theorem PlS.aV {w : Int64} {te ho st s : Nat} (h : PlS σ pb D S) (h1 : m_la σ pb 1 (d_v D) = w) (h3 : m_ar σ pb 3 (d_v D) = nI te) (h4 : m_ar σ pb 4 (d_v D) = nI ho) (h5 : m_ar σ pb 5 (d_v D) = nI st) (h6 : m_ar σ pb 6 (d_v D) = nI s) : PlS (w_sc σ pb 1 (nI (d_v D + 1))) pb (dVa D w te ho st) (updN S (d_v D) s) := by
  obtain ⟨⟨⟨a1, a2, a3⟩, b, c, d, e, f⟩, g⟩ := h
  refine ⟨⟨⟨?_, ?_, ?_⟩, fun k hk => ?_, c, d, fun k hk => ?_, f⟩, fun k hk => ?_⟩
  · rw [m_sc_sc, if_neg (by omega)]; exact a1
  · rw [m_sc_sc, if_pos ⟨rfl, rfl⟩]; rfl
  · rw [m_sc_sc, if_neg (by omega)]; exact a3
  · have hk : k < d_v D + 1 := hk
    show m_ar σ pb 3 k = nI (updN (d_te D) (d_v D) te k) ∧ m_ar σ pb 4 k = nI (updN (d_ho D) (d_v D) ho k) ∧ m_ar σ pb 5 k = nI (updN (d_st D) (d_v D) st k)
    by_cases q : k = d_v D
    · rw [q, updN_e, updN_e, updN_e]; exact ⟨h3, h4, h5⟩
    · rw [updN_n q, updN_n q, updN_n q]; exact b k (by omega)
  · have hk : k < d_v D + 1 := hk
    show m_la σ pb 1 k = updI (d_nv D) (d_v D) w k
    by_cases q : k = d_v D
    · rw [q, updI_e, h1]
    · rw [updI_n q]; exact e k (by omega)
  · have hk : k < d_v D + 1 := hk
    show m_ar σ pb 6 k = nI (updN S (d_v D) s k)
    by_cases q : k = d_v D
    · rw [q, updN_e, h6]
    · rw [updN_n q]; exact g k (by omega)
theorem PlS.aS {w : Int64} {fs sn sl : Nat} {be : Bool} (h : PlS σ pb D S) (h2 : m_la σ pb 2 (d_s D) = w) (h7 : m_ar σ pb 7 (d_s D) = nI fs) (h8 : m_ar σ pb 8 (d_s D) = nI sn) (h9 : m_ar σ pb 9 (d_s D) = if be then 1 else -1) (h10 : m_ar σ pb 10 (d_s D) = nI sl) : PlS (w_sc σ pb 2 (nI (d_s D + 1))) pb (dSh D w fs sn sl be) S := by
  obtain ⟨⟨⟨a1, a2, a3⟩, b, c, d, e, f⟩, g⟩ := h
  refine ⟨⟨⟨?_, ?_, ?_⟩, b, fun k hk => ?_, d, e, fun k hk => ?_⟩, g⟩
  · rw [m_sc_sc, if_neg (by omega)]; exact a1
  · rw [m_sc_sc, if_neg (by omega)]; exact a2
  · rw [m_sc_sc, if_pos ⟨rfl, rfl⟩]; rfl
  · have hk : k < d_s D + 1 := hk
    show m_ar σ pb 7 k = nI (updN (d_fs D) (d_s D) fs k) ∧ m_ar σ pb 8 k = nI (updN (d_sn D) (d_s D) sn k) ∧ m_ar σ pb 9 k = (if (if k = d_s D then be else d_be D k) then 1 else -1) ∧ m_ar σ pb 10 k = nI (updN (d_sl D) (d_s D) sl k)
    by_cases q : k = d_s D
    · rw [q, updN_e, updN_e, updN_e, if_pos rfl]; exact ⟨h7, h8, h9, h10⟩
    · rw [updN_n q, updN_n q, updN_n q, if_neg q]; exact c k (by omega)
  · have hk : k < d_s D + 1 := hk
    show m_la σ pb 2 k = updI (d_ns D) (d_s D) w k
    by_cases q : k = d_s D
    · rw [q, updI_e, h2]
    · rw [updI_n q]; exact f k (by omega)
theorem sNw_ok {a : Nat} (h : sNw X D p = .ok a) : tK X p = 2 := by
  unfold sNw at h
  split at h
  · rename_i q; exact (isNm_e.mp q).1
  · cases h
theorem readPlace_c (hX : WTx X) (h1 : 1 ≠ pb) (h2 : 2 ≠ pb) (k2 : KD pb = 2) (hD : WFD D) (hn : d_p D < 4) (h : TxC σ X p) (hw : WV2 σ pb) (hP : PlS σ pb D S) : ok (fX9_readPlace 2 σ) (VP σ pb X (spPl X D S p)) := by
  unfold fX9_readPlace spPl
  obtain ⟨τ1, a1, x1, -, t1⟩ := adv_c hX h
  have o1 : OB pb σ τ1 := OB.rf.t t1
  have w1 := hw.ob h2 o1
  have b1 := hP.bu (t1 pb h1.symm)
  rw [r_rf_e hw.1 k6, a1, c_V_s, r_rf_e w1.1 k6, r_lg_s, r_rf_e w1.1 k6, r_rf_e w1.2 k2]
  refine bC (takeNewName_c hX x1 hD.1 b1.1) (fun f τ e t => ⟨rfl, e, o1.t t⟩) (fun p2 τ2 e2 x2 t2 => ?_)
  have o2 := o1.t t2
  have w2 := hw.ob h2 o2
  have b2 := b1.bu (t2 pb h1.symm)
  rw [r_rf_e w2.1 k6]
  refine bC (takeSemicolon_c hX x2) (fun f τ e t => ⟨rfl, e, o2.t t⟩) (fun p3 τ3 e3 x3 t3 => ?_)
  have o3 := o2.t t3
  have w3 := hw.ob h2 o3
  have b3 := b2.bu (t3 pb h1.symm)
  have w3' : ∀ i v, m_rf (w_la τ3 pb 0 i v) 2 1 = some pb := fun _ _ => w3.2
  have b3' : ∀ i v, m_sc (w_la τ3 pb 0 i v) pb 0 = nI (d_p D) := fun _ _ => b3.1.1.1
  rw [r_rf_e w3.2 k2, r_rf_e w3.2 k2, r_sc_s, b3.1.1.1, s_la_n hn (by decide), r_rf_e (w3' _ _) k2, r_sc_s, b3', nI_s, p_sc_s, x1.2.2.1.2.2.2.2.2.1 (sNw_ok e2)]
  refine ok_some ⟨rfl, ?_, ?_, o3.la.sc⟩
  · exact (x3.o (BU.law h1)).o (BU.sc h1)
  · exact (b3.wla (Or.inl ⟨rfl, Nat.le_refl _⟩)).aP (by rw [m_la_la, if_pos ⟨rfl, rfl, rfl⟩])
theorem readVane_c (hX : WTx X) (h1 : 1 ≠ pb) (h2 : 2 ≠ pb) (k2 : KD pb = 2) (hD : WFD D) (hn : d_v D < 8) (h : TxC σ X p) (hw : WV2 σ pb) (hP : PlS σ pb D S) : ok (fX9_readVane 2 σ) (VP σ pb X (spVa X D S p)) := by
  unfold fX9_readVane spVa
  have hd := hD.1
  obtain ⟨τ1, a1, x1, -, t1⟩ := adv_c hX h
  have o1 : OB pb σ τ1 := OB.rf.t t1
  have w1 := hw.ob h2 o1
  have b1 := hP.bu (t1 pb h1.symm)
  have w1' : ∀ i v, WV2 (w_la τ1 pb 1 i v) pb := fun _ _ => w1
  rw [ln_2, ln_4, ln_60, ln_3, ln_99, ln_5, r_rf_e hw.2 k2, r_sc_s, hP.1.1.2.1, r_rf_e hw.1 k6, a1, c_V_s, r_rf_e w1.2 k2, r_rf_e w1.1 k6, r_lg_s, s_la_n hn (by decide), r_rf_e (w1' _ _).1 k6, r_rf_e (w1' _ _).2 k2]
  have b1' : PlS (w_la τ1 pb 1 (d_v D) (m_lg τ1 1 8)) pb D S := b1.wla (Or.inr (Or.inl ⟨rfl, Nat.le_refl _⟩))
  refine bC (takeNewName_c hX (x1.o (BU.law h1)) hD.1 b1'.1) (fun f τ e t => ⟨rfl, e, o1.la.t t⟩) (fun p2 τ2 e2 x2 t2 => ?_)
  have o2 := o1.la.t t2
  have w2 := hw.ob h2 o2
  have b2 := b1'.bu (t2 pb h1.symm)
  have n2 : m_la τ2 pb 1 (d_v D) = tw X (tE X p) := by rw [(t2 pb h1.symm).2.2.2.1, m_la_la, if_pos ⟨rfl, rfl, rfl⟩]; exact x1.2.2.1.2.2.2.2.2.1 (sNw_ok e2)
  rw [r_rf_e w2.1 k6]
  refine bC (takeKeyword_c hX x2 (by decide)) (fun f τ e t => ⟨rfl, e, o2.t t⟩) (fun p3 τ3 e3 x3 t3 => ?_)
  have o3 := o2.t t3
  have w3 := hw.ob h2 o3
  rw [r_rf_e w3.1 k6]
  refine bV (takeNumber_c hX x3 (by decide) (by decide)) (fun f τ e t => ⟨rfl, e, o3.t t⟩) (fun t τ4 e4 x4 v4 t4 => ?_)
  have o4 := o3.t t4
  have w4 := hw.ob h2 o4
  have b4 := (b2.bu (t3 pb h1.symm)).bu (t4 pb h1.symm)
  have n4 : m_la τ4 pb 1 (d_v D) = tw X (tE X p) := by rw [(t4 pb h1.symm).2.2.2.1, (t3 pb h1.symm).2.2.2.1]; exact n2
  have ht := sNu_ok e4
  have w4' : ∀ j i v, WV2 (w_ar τ4 pb j i v) pb := fun _ _ _ => w4
  rw [r_rf_e w4.2 k2, r_rf_e w4.1 k6, r_sc_s, v4, s_ar_n hn (by decide), r_rf_e (w4' _ _ _).1 k6]
  refine bC (takeKeyword_c hX (x4.o (BU.arw h1)) (by decide)) (fun f τ e t => ⟨rfl, e, o4.ar.t t⟩) (fun p5 τ5 e5 x5 t5 => ?_)
  have o5 := o4.ar.t t5
  have w5 := hw.ob h2 o5
  have b5 := (b4.war (j := 3) (i := d_v D) (w := nI t.1) (Or.inl ⟨by decide, Nat.le_refl _⟩)).bu (t5 pb h1.symm)
  rw [r_rf_e w5.1 k6, r_rf_e w5.2 k2]
  refine bV (takePlace_c hX x5 hd.1 b5.1) (fun f τ e t => ⟨rfl, e, o5.t t⟩) (fun hh τ6 e6 x6 v6 t6 => ?_)
  have o6 := o5.t t6
  have w6 := hw.ob h2 o6
  have w6' : ∀ j i v, WV2 (w_ar τ6 pb j i v) pb := fun _ _ _ => w6
  have n6 : m_la τ6 pb 1 (d_v D) = tw X (tE X p) := by rw [(t6 pb h1.symm).2.2.2.1, (t5 pb h1.symm).2.2.2.1]; exact n4
  have m6 : m_ar τ6 pb 3 (d_v D) = nI t.1 := by rw [(t6 pb h1.symm).2.2.1, (t5 pb h1.symm).2.2.1, m_ar_ar, if_pos ⟨rfl, rfl, rfl⟩]
  rw [r_rf_e w6.2 k2, r_rf_e w6.1 k6, r_sc_s, v6, s_ar_n hn (by decide), r_rf_e (w6' _ _ _).1 k6]
  refine bV (takeOption_c hX (x6.o (BU.arw h1)) (by decide) (by decide)) (fun f τ e t => ⟨rfl, e, o6.ar.t t⟩) (fun s τ7 e7 x7 v7 t7 => ?_)
  have o7 := o6.ar.t t7
  have w7 := hw.ob h2 o7
  have w7' : ∀ j i v, WV2 (w_ar τ7 pb j i v) pb := fun _ _ _ => w7
  have n7 : m_la τ7 pb 1 (d_v D) = tw X (tE X p) := by rw [(t7 pb h1.symm).2.2.2.1]; exact n6
  have m7 : m_ar τ7 pb 3 (d_v D) = nI t.1 := by rw [(t7 pb h1.symm).2.2.1, m_ar_ar, if_neg (by omega)]; exact m6
  have l7 : m_ar τ7 pb 4 (d_v D) = nI hh.1 := by rw [(t7 pb h1.symm).2.2.1, m_ar_ar, if_pos ⟨rfl, rfl, rfl⟩]
  have b7 := ((b5.bu (t6 pb h1.symm)).war (j := 4) (i := d_v D) (w := nI hh.1) (Or.inl ⟨by decide, Nat.le_refl _⟩)).bu (t7 pb h1.symm)
  have m7' : m_ar (w_ar τ7 pb 5 (d_v D) (nI s.1)) pb 3 (d_v D) = nI t.1 := by rw [m_ar_ar, if_neg (by omega)]; exact m7
  rw [r_rf_e w7.2 k2, r_rf_e w7.1 k6, r_sc_s, v7, s_ar_n hn (by decide), r_rf_e (w7' _ _ _).1 k6, r_rf_e (w7' _ _ _).2 k2, g_ar_n hn (by decide), m7', nI_p (by omega)]
  refine bV (takeOption_c hX (x7.o (BU.arw h1)) (by decide) (by omega)) (fun f τ e t => ⟨rfl, e, o7.ar.t t⟩) (fun r τ8 e8 x8 v8 t8 => ?_)
  have o8 := o7.ar.t t8
  have w8 := hw.ob h2 o8
  have w8' : ∀ j i v, WV2 (w_ar τ8 pb j i v) pb := fun _ _ _ => w8
  have w8'' : ∀ j i v k u, WV2 (w_sc (w_ar τ8 pb j i v) pb k u) pb := fun _ _ _ _ _ => w8
  have b8 := ((b7.war (j := 5) (i := d_v D) (w := nI s.1) (Or.inl ⟨by decide, Nat.le_refl _⟩)).bu (t8 pb h1.symm))
  have b8' : ∀ i v, m_sc (w_ar τ8 pb 6 i v) pb 1 = nI (d_v D) := fun _ _ => b8.1.1.2.1
  rw [r_rf_e w8.2 k2, r_rf_e w8.1 k6, r_sc_s, v8, s_ar_n hn (by decide), r_rf_e (w8' _ _ _).2 k2, r_sc_s, b8', nI_s, p_sc_s, r_rf_e (w8'' _ _ _ _ _).1 k6]
  refine zC (takeSemicolon_c hX ((x8.o (BU.arw h1)).o (BU.sc h1))) (fun f τ e t => ⟨rfl, e, o8.ar.sc.t t⟩) (fun p9 τ9 e9 x9 t9 => ⟨rfl, x9, ?_, o8.ar.sc.t t9⟩)
  refine PlS.bu ?_ (t9 pb h1.symm)
  refine PlS.aV (b8.war (j := 6) (i := d_v D) (w := nI r.1) (Or.inl ⟨by decide, Nat.le_refl _⟩)) ?_ ?_ ?_ ?_ ?_
  · show m_la τ8 pb 1 (d_v D) = _
    rw [(t8 pb h1.symm).2.2.2.1]; exact n7
  · rw [m_ar_ar, if_neg (by omega), (t8 pb h1.symm).2.2.1, m_ar_ar, if_neg (by omega)]; exact m7
  · rw [m_ar_ar, if_neg (by omega), (t8 pb h1.symm).2.2.1, m_ar_ar, if_neg (by omega)]; exact l7
  · rw [m_ar_ar, if_neg (by omega), (t8 pb h1.symm).2.2.1, m_ar_ar, if_pos ⟨rfl, rfl, rfl⟩]
  · rw [m_ar_ar, if_pos ⟨rfl, rfl, rfl⟩]
end O
