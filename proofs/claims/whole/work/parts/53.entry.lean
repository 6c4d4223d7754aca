/-- what the law's loop must come to, from the memory at the start: the pure part -/
def PURE : Prop := ∀ (Ln : Nat) (xs : Nat → Int32), Ln ≤ 3072 → ∃ (n : Nat) (τ : Mm), fL_law_18 Ln xs n 0 mm0 = some τ
section LN
variable {p : Program} {l : Launch} {e : Env} {s : State} {m : MethodId} {b : Nat} {below : List Frame} {meth : Method} {c : Code} {H : Heap} {locs : List Loc} {E : EV} {cs : List XC} {ls : Array Slot} {st : List Value} {pc uc us : Nat} {Q : State → Prop}
theorem L_new {idx ci n : Nat} (X : FL0 p s m meth c b) (hT : TK E s) (hK : KH E cs H) (hS : va_S (e_A E) s.heap H locs) (hd : decode cL_law pc = .ok (.new idx, 3)) (hN : NC RL idx ci) (hnF : nF ci = n) (h1 : uc + 1 ≤ 600000) (h2 : us + n ≤ 7302250)
    (k : ∀ H1 : Heap, KH E (cs ++ [.inl (ci, dflt ci)]) H1 → va_S (e_A E) s.heap H1 locs → W p l e room_1 s m #[Value.ref b] below meth c H1 locs (uc + 1) (us + n) Q (F0 m (pc + 3) ls (.ref (e_B E + cs.length) :: st))) : W p l e room_1 s m #[Value.ref b] below meth c H locs uc us Q (F0 m pc ls st) := by
  obtain ⟨C, T, N, ty, ⟨hc, hNF, hin, hty, hnm⟩, h13, hcl, hinst, hini, hdl, hdf⟩ := hN
  have ht := X.2.2.2.2.2.1
  have hKn := hT.1.1.1 ci _ hc
  have hn : n = N := hnF.symm.trans hNF.symm
  subst hn
  refine W.newcK X.1 X.2.1 X.2.2.2.2.1 (ht _ hcl) (ht _ hinst) (ht _ hini) rfl hd h1 h2 hKn.2.1 rfl fun H1 kC hkC e1 z1 o1 => ?_
  have e0 : H.size = e_B E + cs.length := hK.1
  have hk := k H1 (hK.push z1 o1 ⟨h13, hdl, ?_⟩) ⟨Nat.le_trans hS.1 (by omega), fun x g1 g2 => (o1 x (Nat.lt_of_lt_of_le g1 hS.1)).trans (hS.2.1 x g1 g2), hS.2.2⟩
  · rw [e0]
    exact hk
  · rw [← hNF]
    refine (u_born ty ht hin hKn hkC e1 hty).to fun j hj => ?_
    rw [← rl_d E, hdf j hj]
theorem L_call {z : MI} {d' mc ms idx k : Nat} {cs1 : List XC} {rest : List Value} (X : FL0 p s m meth c b) (hT : TK E s) (hK : KH E cs H) (hS : va_S (e_A E) s.heap H locs) (hls : ls.size = 4) (hC : Kc l E z d' mc ms k cs cs1) (hd : decode cL_law pc = .ok (.invokespecial idx, 3)) (hl : Cond.methodLink RL idx z.1 ∈ GW) (hz : IC z) (hdd : d' ≤ 12) (h1 : uc + mc ≤ 600000) (h2 : us + ms ≤ 7302250) (hr : (rest.map fun v => v.category).sum ≤ 8)
    (kk : ∀ (H1 : Heap) (locs1 : List Loc), KH E cs1 H1 → va_S (e_A E) s.heap H1 locs1 → W p l e room_1 s m #[Value.ref b] below meth c H1 locs1 (uc + mc) (us + ms) Q (F0 m (pc + 3) ls rest)) : W p l e room_1 s m #[Value.ref b] below meth c H locs uc us Q (F0 m pc ls (.ref (e_B E + k) :: rest)) := by
  obtain ⟨hin, hini, hcode, hy, hdesc, hmx, hnm, hrt⟩ := hz
  have hts := X.2.2.2.2.2.1
  have hcode' : Cond.code z.1 z.2.1 z.2.2.1 z.2.2.2 ∈ GW := by rw [hrt]; exact hcode
  have hrm : (rmK d' mc ms).frames + 1 ≤ room_1.frames ∧ 8 + (z.2.2.1 + 11) + (rmK d' mc ms).locals ≤ room_1.locals := by
    simp only [rmK, room_1]; omega
  have hrun := va_runI (l := l) (As := []) (rest := rest) (Ts := GW) (b := e_B E + k) (g := F0 m pc ls (.ref (e_B E + k) :: rest)) (cells := uc) (slots := us) (locs := locs) (below := below) (meth := meth) (p := p) (e := e) (R := room_1) (H := H) ⟨X.1, X.2.1, X.2.2.1, X.2.2.2.2.1, hts⟩ hC ⟨⟨rfl, rfl, hrm.1, hrm.2, GW_good hts hcode', by rw [← hrt]; exact List.mem_cons_self, hts _ hcode, hts _ hini, hy, fun sig h => by rw [h] at hdesc; exact (Option.some.inj hdesc).symm, hts _ hl⟩, hnm, hts _ hin⟩ ⟨Kc.blind, fun U hU hw => ⟨rfl, hT.warm hw, by rw [hU]; exact hK⟩⟩ rfl rfl hls rfl (lv_room hr) hd ⟨h1, h2⟩
  intro T hT' Z
  obtain ⟨v, st₀, t, T', L2, h0, Z', hL, e1, e2, ⟨hv, hw1, hw2, hz, hk⟩, step⟩ := hrun T hT' Z
  cases hv
  rw [h0] at hz hk
  have hS' : va_S (e_A E) s.heap T'.heap (locs ++ L2) := ⟨Nat.le_trans hS.1 (by rw [e1]; exact hz), fun q g1 g2 => by rw [e1, hk q (Nat.lt_of_lt_of_le g1 hS.1) g2]; exact hS.2.1 q g1 g2, fun q hq => by
    rcases List.mem_append.mp hq with h | h
    · exact hS.2.2 q h
    · exact hL q h⟩
  obtain ⟨t2, a1, b1⟩ := kk T'.heap (locs ++ L2) (by rw [e1]; exact hw2) hS' T' rfl Z'
  exact ⟨t2, step t2 a1, b1⟩
end LN
theorem of00 : of_ 0 0 = 0 := by decide
theorem of31 : of_ 31 0 = csA.length := by decide +kernel
set_option maxRecDepth 100000 in
set_option maxHeartbeats 4000000 in
theorem whole_open (hpure : PURE) {p : Program} {e : Env} {s : State} {m : MethodId} {below : List Frame} {meth : Method} {c : Code} (l : Launch) {b L : Nat} {xs : Nat → Int32} (hL : L ≤ 3072) (C0 : lw_At p s m meth c b L xs) : W p l e room_1 s m #[Value.ref b] below meth c s.heap [] 0 0 (lw_Z below #[Value.ref b] s) (entryFrame m ([Value.ref b] : List Value).toArray 4) := by
  obtain ⟨hx, hb, hr, hml, hown, hts, hX, hbl, hlocks, hgv⟩ := id C0
  obtain ⟨E, hB, hE, hT, hSH⟩ := surr hts hgv
  have X : FL0 p s m meth c b := ⟨hx, hb, hml, hr, hown, fun w hw => hts w (List.mem_filter.mp hw).1, hlocks⟩
  have hl := lv_entry ([.ref b]) (n := 4) (Nat.le_of_ble_eq_true rfl)
  rw [lg_entry_eq]
  generalize (lg_sl ([.ref b]) ++ List.replicate (4 - (lg_sl ([.ref b])).length) Slot.unset).toArray = ls at hl ⊢
  have hl : lv_has ls 4 [(0, .ref b)] := hl
  have hK0 : KH E [] s.heap := ⟨by rw [hB]; rfl, fun k q h => by simp at h⟩
  refine L_new (pc := 0) (n := 18) X hT hK0 va_S.rf dL_law_0 ncL_7 rfl (by decide) (by decide) fun H1 hK1 hS1 => ?_
  refine lv_dup X.1 X.2.1 dL_law_3 rfl ?_
  refine L_call (pc := 4) (k := 0) X hT hK1 hS1 hl.1 (kiX11_init l E 0 _ mk1) dL_law_4 mlL_9 icX11_init (by decide) (by decide) (by decide) (Nat.le_of_ble_eq_true rfl) fun H2 locs2 hK2 hS2 => ?_
  refine lv_astore_n (lv' := [(1, .ref (e_B E + 0)), (0, .ref b)]) X.1 X.2.1 dL_law_7 rfl hl (by decide) rfl (fun ls hl => ?_)
  refine L_new (pc := 8) (n := 45) X hT hK2 hS2 dL_law_8 ncL_10 rfl (by decide) (by decide) fun H3 hK3 hS3 => ?_
  refine lv_dup X.1 X.2.1 dL_law_11 rfl ?_
  refine L_call (pc := 12) (k := csA.length) X hT hK3 hS3 hl.1 (kiX12_init l E csA.length _ (by rw [csA_len]; exact mk2)) dL_law_12 mlL_12 icX12_init (by decide) (by decide) (by decide) (Nat.le_of_ble_eq_true rfl) fun H4 locs4 hK4 hS4 => ?_
  refine lv_astore_n (lv' := [(2, .ref (e_B E + csA.length)), (1, .ref (e_B E + 0)), (0, .ref b)]) X.1 X.2.1 dL_law_15 rfl hl (by decide) rfl (fun ls hl => ?_)
  refine lv_iconst (v := 0) X.1 X.2.1 dL_law_16 (by decide) ?_
  refine lv_istore_n (lv' := [(3, .int 0), (2, .ref (e_B E + csA.length)), (1, .ref (e_B E + 0)), (0, .ref b)]) X.1 X.2.1 dL_law_17 rfl hl (by decide) rfl (fun ls hl => ?_)
  obtain ⟨n, τ, hf⟩ := hpure L xs hL
  have hW : WO E mm0 s H4 := ⟨GE.at0 hE, hT.1, hSH.kept (fun a h1 h2 => hS4.2.1 a h1 h2), HO.at0 hE hK4⟩
  have hl2 : lv_has ls 4 [(0, .ref b), (1, .ref (e_a E 0 0)), (2, .ref (e_a E 31 0)), (3, .int 0)] := by
    rw [hE, hE, of00, of31]
    exact lv_sub hl [3, 2, 1, 0] rfl
  exact tL_law_18 l E b L xs n 0 mm0 hf p e s m below meth c H4 locs4 ls X hW hS4 hB ⟨hX, hbl⟩ hl2
