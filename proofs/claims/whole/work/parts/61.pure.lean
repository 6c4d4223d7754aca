/-! PURE 2: what a town is, and how the class and the reference hold it -/
/-- a plan: how many places, vanes, shafts; teeth, home, stiff; first, second, slack, belt; names -/
abbrev PD : Type := (Nat × Nat × Nat) × ((Nat → Nat) × (Nat → Nat) × (Nat → Nat)) × ((Nat → Nat) × (Nat → Nat) × (Nat → Nat) × (Nat → Bool)) × ((Nat → Int64) × (Nat → Int64) × (Nat → Int64))
def d_p (D : PD) : Nat := D.1.1
def d_v (D : PD) : Nat := D.1.2.1
def d_s (D : PD) : Nat := D.1.2.2
def d_te (D : PD) : Nat → Nat := D.2.1.1
def d_ho (D : PD) : Nat → Nat := D.2.1.2.1
def d_st (D : PD) : Nat → Nat := D.2.1.2.2
def d_fs (D : PD) : Nat → Nat := D.2.2.1.1
def d_sn (D : PD) : Nat → Nat := D.2.2.1.2.1
def d_sl (D : PD) : Nat → Nat := D.2.2.1.2.2.1
def d_be (D : PD) : Nat → Bool := D.2.2.1.2.2.2
def d_np (D : PD) : Nat → Int64 := D.2.2.2.1
def d_nv (D : PD) : Nat → Int64 := D.2.2.2.2.1
def d_ns (D : PD) : Nat → Int64 := D.2.2.2.2.2
/-- a state: winds from, strong; points, turned, struck; play; lifted, held; quarter -/
abbrev SD : Type := ((Nat → Nat) × (Nat → Nat)) × ((Nat → Nat) × (Nat → Int32) × (Nat → Int32)) × (Nat → Nat) × (Nat × Nat) × Nat
def v_fr (V : SD) : Nat → Nat := V.1.1
def v_sg (V : SD) : Nat → Nat := V.1.2
def v_pt (V : SD) : Nat → Nat := V.2.1.1
def v_tn (V : SD) : Nat → Int32 := V.2.1.2.1
def v_sk (V : SD) : Nat → Int32 := V.2.1.2.2
def v_py (V : SD) : Nat → Nat := V.2.2.1
def v_li (V : SD) : Nat := V.2.2.2.1.1
def v_he (V : SD) : Nat := V.2.2.2.1.2
def v_qu (V : SD) : Nat := V.2.2.2.2
/-- orders: given, steps, rows; of a row its word (as the class numbers words), what, how, much, partner -/
abbrev OD : Type := (Bool × Nat × Nat) × (Nat → Nat) × (Nat → Nat) × (Nat → Nat) × (Nat → Nat) × (Nat → Nat)
def o_g (O : OD) : Bool := O.1.1
def o_m (O : OD) : Nat := O.1.2.1
def o_r (O : OD) : Nat := O.1.2.2
def o_k (O : OD) : Nat → Nat := O.2.1
def o_w (O : OD) : Nat → Nat := O.2.2.1
def o_h (O : OD) : Nat → Nat := O.2.2.2.1
def o_n (O : OD) : Nat → Nat := O.2.2.2.2.1
def o_p (O : OD) : Nat → Nat := O.2.2.2.2.2
abbrev TW : Type := PD × SD × OD
/-- all: status, top, bottom; fault; trays; tape; the town; marks; the latest run; rounds -/
abbrev GS : Type := (Int32 × Int64 × Int64) × (Int32 × Int32) × (Nat → Option (Nat × Nat × (Nat → Int64))) × (Nat × (Nat → Int32)) × TW × (Nat × (Nat → TW)) × Option (Nat × (Nat → Int32) × (Nat → Int32)) × (Nat → Nat)
def g_q (G : GS) : Int32 := G.1.1
def g_t (G : GS) : Int64 := G.1.2.1
def g_b (G : GS) : Int64 := G.1.2.2
def g_f (G : GS) : Int32 × Int32 := G.2.1
def g_y (G : GS) : Nat → Option (Nat × Nat × (Nat → Int64)) := G.2.2.1
def g_x (G : GS) : Nat × (Nat → Int32) := G.2.2.2.1
def g_w (G : GS) : TW := G.2.2.2.2.1
def g_m (G : GS) : Nat := G.2.2.2.2.2.1.1
def g_k (G : GS) : Nat → TW := G.2.2.2.2.2.1.2
def g_r (G : GS) : Option (Nat × (Nat → Int32) × (Nat → Int32)) := G.2.2.2.2.2.2.1
def g_d (G : GS) : Nat → Nat := G.2.2.2.2.2.2.2
def GD (G : GS) : PD := (g_w G).1
def GV (G : GS) : SD := (g_w G).2.1
def GO (G : GS) : OD := (g_w G).2.2
/-! what can be -/
def WFD (D : PD) : Prop := (d_p D ≤ 4 ∧ d_v D ≤ 8 ∧ d_s D ≤ 10) ∧ (∀ v, v < d_v D → 4 ≤ d_te D v ∧ d_te D v ≤ 60 ∧ d_ho D v < d_p D ∧ d_st D v ≤ 99) ∧ ∀ s, s < d_s D → d_fs D s < d_v D ∧ d_sn D s < d_v D ∧ d_fs D s ≠ d_sn D s ∧ d_sl D s ≤ 9
def WFV (D : PD) (V : SD) : Prop := (∀ q, q < 4 → v_fr V q < 16 ∧ v_sg V q ≤ 99) ∧ (∀ v, v < d_v D → v_pt V v < d_te D v) ∧ (∀ s, s < d_s D → v_py V s ≤ d_sl D s) ∧ v_li V < 2 ^ d_s D ∧ v_he V < 2 ^ d_v D ∧ v_qu V ≤ 9999
/-- a row of orders: what it names is there, its numbers can be; partners -/
def WFr (D : PD) (O : OD) (r : Nat) : Prop :=
  (o_k O r = 10 ∧ o_w O r < d_p D ∧ o_h O r < 16 ∧ o_n O r ≤ 99) ∨ (o_k O r = 17 ∧ o_n O r ≤ 99) ∨ ((o_k O r = 11) ∧ 1 ≤ o_n O r ∧ o_n O r ≤ 99) ∨ ((o_k O r = 12 ∨ o_k O r = 13) ∧ o_w O r < d_s D) ∨ ((o_k O r = 14 ∨ o_k O r = 15) ∧ o_w O r < d_v D) ∨ (o_k O r = 16 ∧ o_w O r < d_v D ∧ 1 ≤ o_n O r ∧ o_n O r ≤ 99) ∨
  (o_k O r = 18 ∧ o_w O r < d_v D ∧ (o_h O r = 19 ∨ ((o_h O r = 60 ∨ o_h O r = 62 ∨ o_h O r = 61) ∧ o_n O r ≤ 60)) ∧ r < o_p O r ∧ o_p O r < o_r O ∧ o_k O (o_p O r) = 21 ∧ o_p O (o_p O r) = r) ∨
  (o_k O r = 20 ∧ 1 ≤ o_n O r ∧ o_n O r ≤ 99 ∧ r < o_p O r ∧ o_p O r < o_r O ∧ o_k O (o_p O r) = 21 ∧ o_p O (o_p O r) = r) ∨ (o_k O r = 22) ∨ (o_k O r = 21 ∧ o_p O r < r ∧ (o_k O (o_p O r) = 18 ∨ o_k O (o_p O r) = 20) ∧ o_p O (o_p O r) = r)
def WFO (D : PD) (O : OD) : Prop := o_g O = true → o_m O ≤ 30 ∧ o_r O ≤ 60 ∧ (∀ r, r < o_r O → WFr D O r) ∧ ∀ r, r + 1 < o_r O → o_k O r = 20 → o_k O (r + 1) = 21 → o_p O (r + 1) = r
def WFT (T : TW) : Prop := WFD T.1 ∧ WFV T.1 T.2.1 ∧ WFO T.1 T.2.2
/-- a byte, as an int holds it -/
def bt (n : Nat) : Int32 := if n < 128 then nI n else iI ((n : Int) - 256)
def WFX (x : Nat × (Nat → Int32)) : Prop := x.1 ≤ 900 ∧ ∀ k, k < x.1 → ∃ n, n < 256 ∧ x.2 k = bt n
def WFG (G : GS) : Prop := (∀ t, t < 4 → ∀ q, g_y G t = some q → q.1 ≤ 3 ∧ q.2.1 ≤ 60) ∧ WFX (g_x G) ∧ WFT (g_w G) ∧ g_m G ≤ 3 ∧ (∀ i, i < g_m G → WFT (g_k G i)) ∧ (∀ q, g_r G = some q → q.1 ≤ 8) ∧ ∀ o, o < 60 → g_d G o ≤ 99
/-! the class -/
def PlC (σ : Mm) (p : Nat) (D : PD) : Prop := (m_sc σ p 0 = nI (d_p D) ∧ m_sc σ p 1 = nI (d_v D) ∧ m_sc σ p 2 = nI (d_s D)) ∧
  (∀ v, v < d_v D → m_ar σ p 3 v = nI (d_te D v) ∧ m_ar σ p 4 v = nI (d_ho D v) ∧ m_ar σ p 5 v = nI (d_st D v)) ∧
  (∀ s, s < d_s D → m_ar σ p 7 s = nI (d_fs D s) ∧ m_ar σ p 8 s = nI (d_sn D s) ∧ m_ar σ p 9 s = (if d_be D s then 1 else -1) ∧ m_ar σ p 10 s = nI (d_sl D s)) ∧
  (∀ k, k < d_p D → m_la σ p 0 k = d_np D k) ∧ (∀ k, k < d_v D → m_la σ p 1 k = d_nv D k) ∧ ∀ k, k < d_s D → m_la σ p 2 k = d_ns D k
def StC (σ : Mm) (s : Nat) (D : PD) (V : SD) : Prop := (∀ q, q < 4 → m_ar σ s 0 q = nI (v_fr V q) ∧ m_ar σ s 1 q = nI (v_sg V q)) ∧
  (∀ v, v < d_v D → m_ar σ s 2 v = nI (v_pt V v) ∧ m_ar σ s 3 v = v_tn V v ∧ m_ar σ s 4 v = v_sk V v) ∧ (∀ k, k < d_s D → m_ar σ s 5 k = nI (v_py V k)) ∧
  m_sc σ s 6 = nI (v_li V) ∧ m_sc σ s 7 = nI (v_he V) ∧ m_sc σ s 8 = nI (v_qu V)
def OrC (σ : Mm) (g : Nat) (O : OD) : Prop := m_sc σ g 0 = (if o_g O then 1 else 0) ∧ (o_g O = true → m_sc σ g 1 = nI (o_m O) ∧ m_sc σ g 2 = nI (o_r O) ∧
  ∀ r, r < o_r O → m_ar σ g 0 r = nI (o_k O r) ∧ (o_k O r ≠ 17 → o_k O r ≠ 11 → o_k O r ≠ 20 → o_k O r ≠ 21 → o_k O r ≠ 22 → m_ar σ g 1 r = nI (o_w O r)) ∧ (o_k O r = 10 ∨ o_k O r = 18 → m_ar σ g 2 r = nI (o_h O r)) ∧
    (o_k O r = 10 ∨ o_k O r = 17 ∨ o_k O r = 11 ∨ o_k O r = 20 ∨ o_k O r = 16 ∨ (o_k O r = 18 ∧ o_h O r ≠ 19) → m_ar σ g 3 r = nI (o_n O r)) ∧ (o_k O r = 18 ∨ o_k O r = 20 ∨ o_k O r = 21 → m_ar σ g 4 r = nI (o_p O r)))
def TwC (σ : Mm) (p s g : Nat) (T : TW) : Prop := PlC σ p T.1 ∧ StC σ s T.1 T.2.1 ∧ OrC σ g T.2.2
def TrC (σ : Mm) (t : Nat) (y : Option (Nat × Nat × (Nat → Int64))) : Prop := match y with
  | none => m_sc σ (15 + t) 0 = -1
  | some q => m_sc σ (15 + t) 0 = nI q.1 ∧ m_sc σ (15 + t) 1 = nI q.2.1 ∧ ∀ k, k < q.2.1 → m_la σ (15 + t) 0 k = q.2.2 k
def RnC (σ : Mm) (r : Option (Nat × (Nat → Int32) × (Nat → Int32))) : Prop := match r with
  | none => m_sc σ 13 9 = 0 ∧ m_sc σ 13 11 = 0
  | some q => m_sc σ 13 9 = 1 ∧ m_sc σ 13 11 = nI q.1 ∧ (∀ k, k < 5 → m_ar σ 13 1 k = q.2.1 k) ∧ ∀ v, v < q.1 → m_ar σ 13 2 v = q.2.2 v
/-- the wiring that changes: which plan, which orders are the town's, which are spare -/
def WrC (σ : Mm) (p g : Nat) : Prop := m_rf σ 4 0 = some p ∧ m_rf σ 4 2 = some g ∧ ((p = 5 ∧ m_rf σ 0 10 = some 8) ∨ (p = 8 ∧ m_rf σ 0 10 = some 5)) ∧ ((g = 7 ∧ m_rf σ 0 11 = some 9) ∨ (g = 9 ∧ m_rf σ 0 11 = some 7)) ∧ ∀ i, i < 3 → m_rf σ (19 + i) 0 = some (22 + i) ∧ m_rf σ (19 + i) 2 = some (28 + i)
def RepC (σ : Mm) (G : GS) : Prop := (m_sc σ 0 0 = g_q G ∧ m_lg σ 0 1 = g_t G ∧ m_lg σ 0 2 = g_b G ∧ m_sc σ 0 7 = (g_f G).1 ∧ m_sc σ 0 8 = (g_f G).2) ∧ (∀ t, t < 4 → TrC σ t (g_y G t)) ∧ (m_sc σ 1 1 = nI (g_x G).1 ∧ ∀ k, k < (g_x G).1 → m_ar σ 1 0 k = (g_x G).2 k) ∧
  (∃ p g, WrC σ p g ∧ TwC σ p 6 g (g_w G)) ∧ (m_sc σ 0 13 = nI (g_m G) ∧ ∀ i, i < g_m G → TwC σ (22 + i) (25 + i) (28 + i) (g_k G i)) ∧ RnC σ (g_r G) ∧ ∀ o, o < 60 → m_ar σ 13 0 o = nI (g_d G o)
/-! the reference: its array 'at' A, its names N -/
def PlR (A : Nat → Int32) (N : Nat → Int64) (b nb : Nat) (D : PD) : Prop := (A b = nI (d_p D) ∧ A (b + 1) = nI (d_v D) ∧ A (b + 2) = nI (d_s D)) ∧
  (∀ v, v < d_v D → A (b + 20 + 6 * v) = nI (d_te D v) ∧ A (b + 21 + 6 * v) = nI (d_ho D v) ∧ A (b + 22 + 6 * v) = nI (d_st D v)) ∧
  (∀ s, s < d_s D → A (b + 70 + 5 * s) = nI (d_fs D s) ∧ A (b + 71 + 5 * s) = nI (d_sn D s) ∧ A (b + 72 + 5 * s) = (if d_be D s then 1 else 0) ∧ A (b + 73 + 5 * s) = nI (d_sl D s)) ∧
  (∀ k, k < d_p D → N (nb + k) = d_np D k) ∧ (∀ k, k < d_v D → N (nb + 4 + k) = d_nv D k) ∧ ∀ k, k < d_s D → N (nb + 12 + k) = d_ns D k
def StR (A : Nat → Int32) (b : Nat) (D : PD) (V : SD) : Prop := (∀ q, q < 4 → A (b + 10 + 2 * q) = nI (v_fr V q) ∧ A (b + 11 + 2 * q) = nI (v_sg V q)) ∧
  (∀ v, v < d_v D → A (b + 23 + 6 * v) = nI (v_pt V v) ∧ A (b + 24 + 6 * v) = v_tn V v ∧ A (b + 25 + 6 * v) = v_sk V v) ∧ (∀ k, k < d_s D → A (b + 74 + 5 * k) = nI (v_py V k)) ∧
  A (b + 4) = nI (v_li V) ∧ A (b + 5) = nI (v_he V) ∧ A (b + 3) = nI (v_qu V)
/-- how the reference numbers a row's word -/
def o_c (k h : Nat) : Int32 := if k = 10 then 10 else if k = 17 then 11 else if k = 11 then 12 else if k = 12 then 13 else if k = 13 then 14 else if k = 14 then 15 else if k = 15 then 16 else if k = 16 then 17 else if k = 18 then (if h = 19 then 1819 else 1807) else if k = 20 then 20 else if k = 21 then 21 else 22
def OrR (A : Nat → Int32) (b : Nat) (O : OD) : Prop := A (b + 6) = (if o_g O then nI (o_r O) else -1) ∧ (o_g O = true → ∀ r, r < o_r O → A (b + 120 + 6 * r) = o_c (o_k O r) (o_h O r) ∧
  (o_k O r = 10 → A (b + 121 + 6 * r) = nI (o_w O r) ∧ A (b + 122 + 6 * r) = nI (o_h O r) ∧ A (b + 123 + 6 * r) = nI (o_n O r)) ∧ (o_k O r = 17 ∨ o_k O r = 11 ∨ o_k O r = 20 → A (b + 121 + 6 * r) = nI (o_n O r)) ∧ (o_k O r = 12 ∨ o_k O r = 13 ∨ o_k O r = 14 ∨ o_k O r = 15 ∨ o_k O r = 16 ∨ o_k O r = 18 → A (b + 121 + 6 * r) = nI (o_w O r)) ∧
  (o_k O r = 16 ∨ (o_k O r = 18 ∧ o_h O r ≠ 19) → A (b + 122 + 6 * r) = nI (o_n O r)) ∧ (o_k O r = 18 ∧ o_h O r ≠ 19 → A (b + 125 + 6 * r) = nI (o_h O r)) ∧ (o_k O r = 18 ∨ o_k O r = 20 ∨ o_k O r = 21 → A (b + 124 + 6 * r) = nI (o_p O r)))
def TwR (A : Nat → Int32) (N : Nat → Int64) (i : Nat) (T : TW) : Prop := PlR A N (490 * i) (22 * i) T.1 ∧ StR A (490 * i) T.1 T.2.1 ∧ OrR A (490 * i) T.2.2
def TrR (σ : Mm) (t : Nat) (y : Option (Nat × Nat × (Nat → Int64))) : Prop := match y with
  | none => m_ar σ 31 3 t = -1
  | some q => m_ar σ 31 2 t = nI q.1 ∧ m_ar σ 31 3 t = nI q.2.1 ∧ ∀ k, k < q.2.1 → m_la σ 31 4 (60 * t + k) = q.2.2 k
def RnR (σ : Mm) (r : Option (Nat × (Nat → Int32) × (Nat → Int32))) : Prop := match r with
  | none => m_sc σ 31 42 = -1
  | some q => m_sc σ 31 42 = nI q.1 ∧ (∀ k, k < 5 → m_ar σ 31 15 k = q.2.1 k) ∧ ∀ v, v < q.1 → m_ar σ 31 16 v = q.2.2 v
def RepR (σ : Mm) (G : GS) : Prop := (m_sc σ 31 2 = g_q G ∧ m_lg σ 31 3 = g_t G ∧ m_lg σ 31 4 = g_b G ∧ m_sc σ 31 16 = (g_f G).1 ∧ m_sc σ 31 17 = (g_f G).2) ∧ (∀ t, t < 4 → TrR σ t (g_y G t)) ∧ (m_sc σ 31 10 = nI (g_x G).1 ∧ ∀ k, k < (g_x G).1 → m_ar σ 31 5 k = (g_x G).2 k) ∧
  TwR (m_ar σ 31 0) (m_la σ 31 1) 0 (g_w G) ∧ (m_sc σ 31 44 = nI (g_m G) ∧ ∀ i, i < g_m G → TwR (m_ar σ 31 0) (m_la σ 31 1) (i + 1) (g_k G i)) ∧ RnR σ (g_r G) ∧ ∀ o, o < 60 → m_ar σ 31 14 o = nI (g_d G o - 1)
def Rel (σ : Mm) : Prop := ∃ G, WFG G ∧ RepC σ G ∧ RepR σ G
/-! what leaves a block leaves what it holds -/
theorem PlC.bu {σ τ : Mm} {p : Nat} {D : PD} (h : BU p σ τ) (q : PlC σ p D) : PlC τ p D := by
  simp only [PlC, h.1, h.2.2.1, h.2.2.2.1]; exact q
theorem StC.bu {σ τ : Mm} {s : Nat} {D : PD} {V : SD} (h : BU s σ τ) (q : StC σ s D V) : StC τ s D V := by
  simp only [StC, h.1, h.2.2.1]; exact q
theorem OrC.bu {σ τ : Mm} {g : Nat} {O : OD} (h : BU g σ τ) (q : OrC σ g O) : OrC τ g O := by
  simp only [OrC, h.1, h.2.2.1]; exact q
theorem TrC.bu {σ τ : Mm} {t : Nat} {y : Option (Nat × Nat × (Nat → Int64))} (h : BU (15 + t) σ τ) (q : TrC σ t y) : TrC τ t y := by
  cases y with
  | none => exact (h.1 0).trans q
  | some y => exact ⟨(h.1 0).trans q.1, (h.1 1).trans q.2.1, fun k hk => by rw [h.2.2.2.1]; exact q.2.2 k hk⟩
theorem RnC.bu {σ τ : Mm} {r : Option (Nat × (Nat → Int32) × (Nat → Int32))} (h : BU 13 σ τ) (q : RnC σ r) : RnC τ r := by
  cases r with
  | none => exact ⟨(h.1 9).trans q.1, (h.1 11).trans q.2⟩
  | some r => exact ⟨(h.1 9).trans q.1, (h.1 11).trans q.2.1, fun k hk => by rw [h.2.2.1]; exact q.2.2.1 k hk, fun k hk => by rw [h.2.2.1]; exact q.2.2.2 k hk⟩
theorem RepR.bu {σ τ : Mm} {G : GS} (h : BU 31 σ τ) (q : RepR σ G) : RepR τ G := by
  obtain ⟨q1, q2, q3, q4, q5, q6, q7⟩ := q
  refine ⟨?_, fun t ht => ?_, ?_, ?_, ?_, ?_, ?_⟩
  · rw [h.1, h.1, h.1, h.2.1, h.2.1]; exact q1
  · have := q2 t ht
    cases hy : g_y G t with
    | none => rw [hy] at this; show m_ar τ 31 3 t = -1; rw [h.2.2.1]; exact this
    | some y => rw [hy] at this; refine ⟨?_, ?_, fun k hk => ?_⟩ <;> first | (rw [h.2.2.1]; first | exact this.1 | exact this.2.1) | (rw [h.2.2.2.1]; exact this.2.2 k hk)
  · rw [h.1, h.2.2.1]; exact q3
  · rw [h.2.2.1, h.2.2.2.1]; exact q4
  · rw [h.1, h.2.2.1, h.2.2.2.1]; exact q5
  · cases hr : g_r G with
    | none => rw [hr] at q6; exact (h.1 42).trans q6
    | some r => rw [hr] at q6; exact ⟨(h.1 42).trans q6.1, fun k hk => by rw [h.2.2.1]; exact q6.2.1 k hk, fun k hk => by rw [h.2.2.1]; exact q6.2.2 k hk⟩
  · rw [h.2.2.1]; exact q7
theorem RepC.bu {σ τ : Mm} {G : GS} (h : ∀ q, q < 31 → BU q σ τ) (hm : g_m G ≤ 3) (q : RepC σ G) : RepC τ G := by
  obtain ⟨q1, q2, q3, ⟨p, g, ⟨w1, w2, w3, w4, w5⟩, t1, t2, t3⟩, q5, q6, q7⟩ := q
  have hp : p < 31 := by rcases w3 with ⟨rfl, -⟩ | ⟨rfl, -⟩ <;> decide
  have hg : g < 31 := by rcases w4 with ⟨rfl, -⟩ | ⟨rfl, -⟩ <;> decide
  refine ⟨?_, fun t ht => (q2 t ht).bu (h _ (by omega)), ?_, ⟨p, g, ⟨?_, ?_, ?_, ?_, fun i hi => ?_⟩, t1.bu (h p hp), t2.bu (h 6 (by decide)), t3.bu (h g hg)⟩, ⟨?_, fun i hi => ?_⟩, q6.bu (h 13 (by decide)), ?_⟩
  · have h0 := h 0 (by decide)
    rw [h0.1, h0.1, h0.1, h0.2.1, h0.2.1]; exact q1
  · have h0 := h 1 (by decide)
    rw [h0.1, h0.2.2.1]; exact q3
  · rw [(h 4 (by decide)).2.2.2.2]; exact w1
  · rw [(h 4 (by decide)).2.2.2.2]; exact w2
  · rw [(h 0 (by decide)).2.2.2.2]; exact w3
  · rw [(h 0 (by decide)).2.2.2.2]; exact w4
  · rw [(h (19 + i) (by omega)).2.2.2.2, (h (19 + i) (by omega)).2.2.2.2]; exact w5 i hi
  · rw [(h 0 (by decide)).1]; exact q5.1
  · have hi3 : i < 3 := by omega
    obtain ⟨a, b, c⟩ := q5.2 i hi
    exact ⟨a.bu (h _ (by omega)), b.bu (h _ (by omega)), c.bu (h _ (by omega))⟩
  · rw [(h 13 (by decide)).2.2.1]; exact q7
theorem kd31 {q : Nat} (h : q < 31) : KD q ∉ [12] := (show ∀ q, q < 31 → KD q ∉ [12] by decide) q h
/-- a call of the class, then of the reference -/
theorem simI {fc fr : Mm → Option (Int32 × Mm)} {ks : List Nat} (hks : 12 ∉ ks) (r : GS → Int32) (nx : GS → GS) (hC : ∀ σ G, WFG G → RepC σ G → ok (fc σ) (fun q => q.1 = r G ∧ RepC q.2 (nx G))) (hR : ∀ σ G, WFG G → RepR σ G → ok (fr σ) (fun q => q.1 = r G ∧ RepR q.2 (nx G))) (hG : ∀ G, WFG G → WFG (nx G)) (fC : ∀ σ x τ, fc σ = some (x, τ) → FK ks σ τ) (fR : ∀ σ x τ, fr σ = some (x, τ) → FK [12] σ τ) (σ : Mm) (h : Rel σ) : ok (fc σ) (fun q => ok (fr q.2) (fun q' => q'.1 = q.1 ∧ Rel q'.2)) := by
  obtain ⟨G, hW, h1, h2⟩ := h
  obtain ⟨⟨x, τ⟩, e1, ex, hc⟩ := hC σ G hW h1
  refine ⟨(x, τ), e1, ?_⟩
  obtain ⟨⟨x', τ'⟩, e2, ex', hr⟩ := hR τ G hW (h2.bu (fC σ x τ e1 31 (by rw [k31]; exact hks)))
  exact ⟨(x', τ'), e2, ex'.trans ex.symm, nx G, hG G hW, hc.bu (fun q hq => fR τ x' τ' e2 q (kd31 hq)) (hG G hW).2.2.2.1, hr⟩
theorem simL {fc fr : Mm → Option (Int64 × Mm)} {ks : List Nat} (hks : 12 ∉ ks) (r : GS → Int64) (nx : GS → GS) (hC : ∀ σ G, WFG G → RepC σ G → ok (fc σ) (fun q => q.1 = r G ∧ RepC q.2 (nx G))) (hR : ∀ σ G, WFG G → RepR σ G → ok (fr σ) (fun q => q.1 = r G ∧ RepR q.2 (nx G))) (hG : ∀ G, WFG G → WFG (nx G)) (fC : ∀ σ x τ, fc σ = some (x, τ) → FK ks σ τ) (fR : ∀ σ x τ, fr σ = some (x, τ) → FK [12] σ τ) (σ : Mm) (h : Rel σ) : ok (fc σ) (fun q => ok (fr q.2) (fun q' => q'.1 = q.1 ∧ Rel q'.2)) := by
  obtain ⟨G, hW, h1, h2⟩ := h
  obtain ⟨⟨x, τ⟩, e1, ex, hc⟩ := hC σ G hW h1
  refine ⟨(x, τ), e1, ?_⟩
  obtain ⟨⟨x', τ'⟩, e2, ex', hr⟩ := hR τ G hW (h2.bu (fC σ x τ e1 31 (by rw [k31]; exact hks)))
  exact ⟨(x', τ'), e2, ex'.trans ex.symm, nx G, hG G hW, hc.bu (fun q hq => fR τ x' τ' e2 q (kd31 hq)) (hG G hW).2.2.2.1, hr⟩
