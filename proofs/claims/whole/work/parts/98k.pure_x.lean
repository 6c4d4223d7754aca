/-! PURE 60: the law's loop -/
theorem gx {α : Type} {Ln i k : Nat} {xs : Nat → Int32} {K : Int32 → Option α} (hL : Ln ≤ 3072) (h : i + 6 ≤ Ln) (hk : k < 6) : g_xs Ln xs (nI i + nI k) K = K (xs (i + k)) := by
  rw [nI_ad, g_xs_n (by omega) (by omega)]
section LAW
variable {Ln i : Nat} {xs : Nat → Int32} {K : Int32 → Mm → Option Mm} {σ : Mm}
theorem lc_264 (hL : Ln ≤ 3072) (hi : i + 6 ≤ Ln) (h : Rel σ) : ∃ τ, fL_law_264 Ln xs K (nI i) σ = K (nI (i + 6)) τ ∧ Rel τ := by
  unfold fL_law_264
  obtain ⟨⟨x, τ⟩, e1, ⟨y, ω⟩, e2, exy, hr⟩ := status_s  σ h
  rw [e1, c_I_s, show fX12_status 31  τ = some (y, ω) from e2, c_I_s, if_pos (show x = y from exy.symm), show nI i + (6 : Int32) = nI (i + 6) from nI_ad i 6]
  exact ⟨ω, rfl, hr⟩
theorem lc_277 (hL : Ln ≤ 3072) (hi : i + 6 ≤ Ln) (h : Rel σ) : ∃ τ, fL_law_277 Ln xs K (nI i) σ = K (nI (i + 6)) τ ∧ Rel τ := by
  unfold fL_law_277
  obtain ⟨⟨x, τ⟩, e1, ⟨y, ω⟩, e2, exy, hr⟩ := top_s  σ h
  rw [e1, c_L_s, show fX12_top 31  τ = some (y, ω) from e2, c_L_s, if_pos (show lg_cmp x y = 0 from by rw [show y = x from exy]; exact (lgc_0 _ _).mpr rfl), show nI i + (6 : Int32) = nI (i + 6) from nI_ad i 6]
  exact ⟨ω, rfl, hr⟩
theorem lc_291 (hL : Ln ≤ 3072) (hi : i + 6 ≤ Ln) (h : Rel σ) : ∃ τ, fL_law_291 Ln xs K (nI i) σ = K (nI (i + 6)) τ ∧ Rel τ := by
  unfold fL_law_291
  obtain ⟨⟨x, τ⟩, e1, ⟨y, ω⟩, e2, exy, hr⟩ := bottom_s  σ h
  rw [e1, c_L_s, show fX12_bottom 31  τ = some (y, ω) from e2, c_L_s, if_pos (show lg_cmp x y = 0 from by rw [show y = x from exy]; exact (lgc_0 _ _).mpr rfl), show nI i + (6 : Int32) = nI (i + 6) from nI_ad i 6]
  exact ⟨ω, rfl, hr⟩
theorem lc_305 (hL : Ln ≤ 3072) (hi : i + 6 ≤ Ln) (h : Rel σ) : ∃ τ, fL_law_305 Ln xs K (nI i) σ = K (nI (i + 6)) τ ∧ Rel τ := by
  unfold fL_law_305
  obtain ⟨⟨x, τ⟩, e1, ⟨y, ω⟩, e2, exy, hr⟩ := tray_s (xs (i + 1)) (xs (i + 2)) (xs (i + 3)) σ h
  rw [show g_xs Ln xs (nI i + (1 : Int32)) = g_xs Ln xs (nI i + nI 1) from rfl, gx hL hi (by decide), show g_xs Ln xs (nI i + (2 : Int32)) = g_xs Ln xs (nI i + nI 2) from rfl, gx hL hi (by decide), show g_xs Ln xs (nI i + (3 : Int32)) = g_xs Ln xs (nI i + nI 3) from rfl, gx hL hi (by decide), e1, c_I_s, gx hL hi (by decide), gx hL hi (by decide), gx hL hi (by decide), show fX12_tray 31 (xs (i + 1)) (xs (i + 2)) (xs (i + 3)) τ = some (y, ω) from e2, c_I_s, if_pos (show x = y from exy.symm), show nI i + (6 : Int32) = nI (i + 6) from nI_ad i 6]
  exact ⟨ω, rfl, hr⟩
theorem lc_348 (hL : Ln ≤ 3072) (hi : i + 6 ≤ Ln) (h : Rel σ) : ∃ τ, fL_law_348 Ln xs K (nI i) σ = K (nI (i + 6)) τ ∧ Rel τ := by
  unfold fL_law_348
  obtain ⟨⟨x, τ⟩, e1, ⟨y, ω⟩, e2, exy, hr⟩ := write_s (xs (i + 1)) (xs (i + 2)) (((xs (i + 3)).toInt64 <<< ((32 : Int32).toInt64 &&& 63)) ||| ((xs (i + 4)).toInt64 &&& (4294967295 : Int64))) σ h
  rw [show g_xs Ln xs (nI i + (1 : Int32)) = g_xs Ln xs (nI i + nI 1) from rfl, gx hL hi (by decide), show g_xs Ln xs (nI i + (2 : Int32)) = g_xs Ln xs (nI i + nI 2) from rfl, gx hL hi (by decide), show g_xs Ln xs (nI i + (3 : Int32)) = g_xs Ln xs (nI i + nI 3) from rfl, gx hL hi (by decide), show g_xs Ln xs (nI i + (4 : Int32)) = g_xs Ln xs (nI i + nI 4) from rfl, gx hL hi (by decide), e1, c_I_s, gx hL hi (by decide), gx hL hi (by decide), gx hL hi (by decide), gx hL hi (by decide), show fX12_write 31 (xs (i + 1)) (xs (i + 2)) (((xs (i + 3)).toInt64 <<< ((32 : Int32).toInt64 &&& 63)) ||| ((xs (i + 4)).toInt64 &&& (4294967295 : Int64))) τ = some (y, ω) from e2, c_I_s, if_pos (show x = y from exy.symm), show nI i + (6 : Int32) = nI (i + 6) from nI_ad i 6]
  exact ⟨ω, rfl, hr⟩
theorem lc_421 (hL : Ln ≤ 3072) (hi : i + 6 ≤ Ln) (h : Rel σ) : ∃ τ, fL_law_421 Ln xs K (nI i) σ = K (nI (i + 6)) τ ∧ Rel τ := by
  unfold fL_law_421
  obtain ⟨⟨x, τ⟩, e1, ⟨y, ω⟩, e2, exy, hr⟩ := read_s (xs (i + 1)) (xs (i + 2)) σ h
  rw [show g_xs Ln xs (nI i + (1 : Int32)) = g_xs Ln xs (nI i + nI 1) from rfl, gx hL hi (by decide), show g_xs Ln xs (nI i + (2 : Int32)) = g_xs Ln xs (nI i + nI 2) from rfl, gx hL hi (by decide), e1, c_L_s, gx hL hi (by decide), gx hL hi (by decide), show fX12_read 31 (xs (i + 1)) (xs (i + 2)) τ = some (y, ω) from e2, c_L_s, if_pos (show lg_cmp x y = 0 from by rw [show y = x from exy]; exact (lgc_0 _ _).mpr rfl), show nI i + (6 : Int32) = nI (i + 6) from nI_ad i 6]
  exact ⟨ω, rfl, hr⟩
theorem lc_455 (hL : Ln ≤ 3072) (hi : i + 6 ≤ Ln) (h : Rel σ) : ∃ τ, fL_law_455 Ln xs K (nI i) σ = K (nI (i + 6)) τ ∧ Rel τ := by
  unfold fL_law_455
  obtain ⟨⟨x, τ⟩, e1, ⟨y, ω⟩, e2, exy, hr⟩ := pour_s (xs (i + 1)) (xs (i + 2)) (xs (i + 3)) (xs (i + 4)) (xs (i + 5)) σ h
  rw [show g_xs Ln xs (nI i + (1 : Int32)) = g_xs Ln xs (nI i + nI 1) from rfl, gx hL hi (by decide), show g_xs Ln xs (nI i + (2 : Int32)) = g_xs Ln xs (nI i + nI 2) from rfl, gx hL hi (by decide), show g_xs Ln xs (nI i + (3 : Int32)) = g_xs Ln xs (nI i + nI 3) from rfl, gx hL hi (by decide), show g_xs Ln xs (nI i + (4 : Int32)) = g_xs Ln xs (nI i + nI 4) from rfl, gx hL hi (by decide), show g_xs Ln xs (nI i + (5 : Int32)) = g_xs Ln xs (nI i + nI 5) from rfl, gx hL hi (by decide), e1, c_I_s, gx hL hi (by decide), gx hL hi (by decide), gx hL hi (by decide), gx hL hi (by decide), gx hL hi (by decide), show fX12_pour 31 (xs (i + 1)) (xs (i + 2)) (xs (i + 3)) (xs (i + 4)) (xs (i + 5)) τ = some (y, ω) from e2, c_I_s, if_pos (show x = y from exy.symm), show nI i + (6 : Int32) = nI (i + 6) from nI_ad i 6]
  exact ⟨ω, rfl, hr⟩
theorem lc_518 (hL : Ln ≤ 3072) (hi : i + 6 ≤ Ln) (h : Rel σ) : ∃ τ, fL_law_518 Ln xs K (nI i) σ = K (nI (i + 6)) τ ∧ Rel τ := by
  unfold fL_law_518
  obtain ⟨⟨x, τ⟩, e1, ⟨y, ω⟩, e2, exy, hr⟩ := feed_s (xs (i + 1)) (xs (i + 2)) (xs (i + 3)) (xs (i + 4)) (xs (i + 5)) σ h
  rw [show g_xs Ln xs (nI i + (1 : Int32)) = g_xs Ln xs (nI i + nI 1) from rfl, gx hL hi (by decide), show g_xs Ln xs (nI i + (2 : Int32)) = g_xs Ln xs (nI i + nI 2) from rfl, gx hL hi (by decide), show g_xs Ln xs (nI i + (3 : Int32)) = g_xs Ln xs (nI i + nI 3) from rfl, gx hL hi (by decide), show g_xs Ln xs (nI i + (4 : Int32)) = g_xs Ln xs (nI i + nI 4) from rfl, gx hL hi (by decide), show g_xs Ln xs (nI i + (5 : Int32)) = g_xs Ln xs (nI i + nI 5) from rfl, gx hL hi (by decide), e1, c_I_s, gx hL hi (by decide), gx hL hi (by decide), gx hL hi (by decide), gx hL hi (by decide), gx hL hi (by decide), show fX12_feed 31 (xs (i + 1)) (xs (i + 2)) (xs (i + 3)) (xs (i + 4)) (xs (i + 5)) τ = some (y, ω) from e2, c_I_s, if_pos (show x = y from exy.symm), show nI i + (6 : Int32) = nI (i + 6) from nI_ad i 6]
  exact ⟨ω, rfl, hr⟩
theorem lc_581 (hs : ∀ (a : Int32) (σ : Mm), Rel σ → ok (fX11_village 0 a σ) (fun q => ok (fX12_village 31 a q.2) (fun q' => q'.1 = q.1 ∧ Rel q'.2))) (hL : Ln ≤ 3072) (hi : i + 6 ≤ Ln) (h : Rel σ) : ∃ τ, fL_law_581 Ln xs K (nI i) σ = K (nI (i + 6)) τ ∧ Rel τ := by
  unfold fL_law_581
  obtain ⟨⟨x, τ⟩, e1, ⟨y, ω⟩, e2, exy, hr⟩ := hs (xs (i + 1)) σ h
  rw [show g_xs Ln xs (nI i + (1 : Int32)) = g_xs Ln xs (nI i + nI 1) from rfl, gx hL hi (by decide), e1, c_I_s, gx hL hi (by decide), show fX12_village 31 (xs (i + 1)) τ = some (y, ω) from e2, c_I_s, if_pos (show x = y from exy.symm), show nI i + (6 : Int32) = nI (i + 6) from nI_ad i 6]
  exact ⟨ω, rfl, hr⟩
theorem lc_604 (hs : ∀ (a : Int32) (σ : Mm), Rel σ → ok (fX11_orders 0 a σ) (fun q => ok (fX12_orders 31 a q.2) (fun q' => q'.1 = q.1 ∧ Rel q'.2))) (hL : Ln ≤ 3072) (hi : i + 6 ≤ Ln) (h : Rel σ) : ∃ τ, fL_law_604 Ln xs K (nI i) σ = K (nI (i + 6)) τ ∧ Rel τ := by
  unfold fL_law_604
  obtain ⟨⟨x, τ⟩, e1, ⟨y, ω⟩, e2, exy, hr⟩ := hs (xs (i + 1)) σ h
  rw [show g_xs Ln xs (nI i + (1 : Int32)) = g_xs Ln xs (nI i + nI 1) from rfl, gx hL hi (by decide), e1, c_I_s, gx hL hi (by decide), show fX12_orders 31 (xs (i + 1)) τ = some (y, ω) from e2, c_I_s, if_pos (show x = y from exy.symm), show nI i + (6 : Int32) = nI (i + 6) from nI_ad i 6]
  exact ⟨ω, rfl, hr⟩
theorem lc_627 (hL : Ln ≤ 3072) (hi : i + 6 ≤ Ln) (h : Rel σ) : ∃ τ, fL_law_627 Ln xs K (nI i) σ = K (nI (i + 6)) τ ∧ Rel τ := by
  unfold fL_law_627
  obtain ⟨⟨x, τ⟩, e1, ⟨y, ω⟩, e2, exy, hr⟩ := fault_s (xs (i + 1)) σ h
  rw [show g_xs Ln xs (nI i + (1 : Int32)) = g_xs Ln xs (nI i + nI 1) from rfl, gx hL hi (by decide), e1, c_I_s, gx hL hi (by decide), show fX12_fault 31 (xs (i + 1)) τ = some (y, ω) from e2, c_I_s, if_pos (show x = y from exy.symm), show nI i + (6 : Int32) = nI (i + 6) from nI_ad i 6]
  exact ⟨ω, rfl, hr⟩
theorem lc_650 (hL : Ln ≤ 3072) (hi : i + 6 ≤ Ln) (h : Rel σ) : ∃ τ, fL_law_650 Ln xs K (nI i) σ = K (nI (i + 6)) τ ∧ Rel τ := by
  unfold fL_law_650
  obtain ⟨⟨x, τ⟩, e1, ⟨y, ω⟩, e2, exy, hr⟩ := told_s (xs (i + 1)) σ h
  rw [show g_xs Ln xs (nI i + (1 : Int32)) = g_xs Ln xs (nI i + nI 1) from rfl, gx hL hi (by decide), e1, c_I_s, gx hL hi (by decide), show fX12_told 31 (xs (i + 1)) τ = some (y, ω) from e2, c_I_s, if_pos (show x = y from exy.symm), show nI i + (6 : Int32) = nI (i + 6) from nI_ad i 6]
  exact ⟨ω, rfl, hr⟩
theorem lc_673 (hL : Ln ≤ 3072) (hi : i + 6 ≤ Ln) (h : Rel σ) : ∃ τ, fL_law_673 Ln xs K (nI i) σ = K (nI (i + 6)) τ ∧ Rel τ := by
  unfold fL_law_673
  obtain ⟨⟨x, τ⟩, e1, ⟨y, ω⟩, e2, exy, hr⟩ := vane_s (xs (i + 1)) (xs (i + 2)) σ h
  rw [show g_xs Ln xs (nI i + (1 : Int32)) = g_xs Ln xs (nI i + nI 1) from rfl, gx hL hi (by decide), show g_xs Ln xs (nI i + (2 : Int32)) = g_xs Ln xs (nI i + nI 2) from rfl, gx hL hi (by decide), e1, c_I_s, gx hL hi (by decide), gx hL hi (by decide), show fX12_vane 31 (xs (i + 1)) (xs (i + 2)) τ = some (y, ω) from e2, c_I_s, if_pos (show x = y from exy.symm), show nI i + (6 : Int32) = nI (i + 6) from nI_ad i 6]
  exact ⟨ω, rfl, hr⟩
theorem lc_706 (hL : Ln ≤ 3072) (hi : i + 6 ≤ Ln) (h : Rel σ) : ∃ τ, fL_law_706 Ln xs K (nI i) σ = K (nI (i + 6)) τ ∧ Rel τ := by
  unfold fL_law_706
  obtain ⟨⟨x, τ⟩, e1, ⟨y, ω⟩, e2, exy, hr⟩ := shaft_s (xs (i + 1)) (xs (i + 2)) σ h
  rw [show g_xs Ln xs (nI i + (1 : Int32)) = g_xs Ln xs (nI i + nI 1) from rfl, gx hL hi (by decide), show g_xs Ln xs (nI i + (2 : Int32)) = g_xs Ln xs (nI i + nI 2) from rfl, gx hL hi (by decide), e1, c_I_s, gx hL hi (by decide), gx hL hi (by decide), show fX12_shaft 31 (xs (i + 1)) (xs (i + 2)) τ = some (y, ω) from e2, c_I_s, if_pos (show x = y from exy.symm), show nI i + (6 : Int32) = nI (i + 6) from nI_ad i 6]
  exact ⟨ω, rfl, hr⟩
theorem lc_739 (hL : Ln ≤ 3072) (hi : i + 6 ≤ Ln) (h : Rel σ) : ∃ τ, fL_law_739 Ln xs K (nI i) σ = K (nI (i + 6)) τ ∧ Rel τ := by
  unfold fL_law_739
  obtain ⟨⟨x, τ⟩, e1, ⟨y, ω⟩, e2, exy, hr⟩ := wants_s (xs (i + 1)) σ h
  rw [show g_xs Ln xs (nI i + (1 : Int32)) = g_xs Ln xs (nI i + nI 1) from rfl, gx hL hi (by decide), e1, c_I_s, gx hL hi (by decide), show fX12_wants 31 (xs (i + 1)) τ = some (y, ω) from e2, c_I_s, if_pos (show x = y from exy.symm), show nI i + (6 : Int32) = nI (i + 6) from nI_ad i 6]
  exact ⟨ω, rfl, hr⟩
theorem lc_762 (hL : Ln ≤ 3072) (hi : i + 6 ≤ Ln) (h : Rel σ) : ∃ τ, fL_law_762 Ln xs K (nI i) σ = K (nI (i + 6)) τ ∧ Rel τ := by
  unfold fL_law_762
  obtain ⟨⟨x, τ⟩, e1, ⟨y, ω⟩, e2, exy, hr⟩ := right_s (xs (i + 1)) σ h
  rw [show g_xs Ln xs (nI i + (1 : Int32)) = g_xs Ln xs (nI i + nI 1) from rfl, gx hL hi (by decide), e1, c_I_s, gx hL hi (by decide), show fX12_right 31 (xs (i + 1)) τ = some (y, ω) from e2, c_I_s, if_pos (show x = y from exy.symm), show nI i + (6 : Int32) = nI (i + 6) from nI_ad i 6]
  exact ⟨ω, rfl, hr⟩
theorem lc_785 (hL : Ln ≤ 3072) (hi : i + 6 ≤ Ln) (h : Rel σ) : ∃ τ, fL_law_785 Ln xs K (nI i) σ = K (nI (i + 6)) τ ∧ Rel τ := by
  unfold fL_law_785
  obtain ⟨⟨x, τ⟩, e1, ⟨y, ω⟩, e2, exy, hr⟩ := wind_s (xs (i + 1)) (xs (i + 2)) (xs (i + 3)) σ h
  rw [show g_xs Ln xs (nI i + (1 : Int32)) = g_xs Ln xs (nI i + nI 1) from rfl, gx hL hi (by decide), show g_xs Ln xs (nI i + (2 : Int32)) = g_xs Ln xs (nI i + nI 2) from rfl, gx hL hi (by decide), show g_xs Ln xs (nI i + (3 : Int32)) = g_xs Ln xs (nI i + nI 3) from rfl, gx hL hi (by decide), e1, c_I_s, gx hL hi (by decide), gx hL hi (by decide), gx hL hi (by decide), show fX12_wind 31 (xs (i + 1)) (xs (i + 2)) (xs (i + 3)) τ = some (y, ω) from e2, c_I_s, if_pos (show x = y from exy.symm), show nI i + (6 : Int32) = nI (i + 6) from nI_ad i 6]
  exact ⟨ω, rfl, hr⟩
theorem lc_828 (hL : Ln ≤ 3072) (hi : i + 6 ≤ Ln) (h : Rel σ) : ∃ τ, fL_law_828 Ln xs K (nI i) σ = K (nI (i + 6)) τ ∧ Rel τ := by
  unfold fL_law_828
  obtain ⟨⟨x, τ⟩, e1, ⟨y, ω⟩, e2, exy, hr⟩ := windAt_s (xs (i + 1)) (xs (i + 2)) σ h
  rw [show g_xs Ln xs (nI i + (1 : Int32)) = g_xs Ln xs (nI i + nI 1) from rfl, gx hL hi (by decide), show g_xs Ln xs (nI i + (2 : Int32)) = g_xs Ln xs (nI i + nI 2) from rfl, gx hL hi (by decide), e1, c_I_s, gx hL hi (by decide), gx hL hi (by decide), show fX12_windAt 31 (xs (i + 1)) (xs (i + 2)) τ = some (y, ω) from e2, c_I_s, if_pos (show x = y from exy.symm), show nI i + (6 : Int32) = nI (i + 6) from nI_ad i 6]
  exact ⟨ω, rfl, hr⟩
theorem lc_861 (hL : Ln ≤ 3072) (hi : i + 6 ≤ Ln) (h : Rel σ) : ∃ τ, fL_law_861 Ln xs K (nI i) σ = K (nI (i + 6)) τ ∧ Rel τ := by
  unfold fL_law_861
  rw [show g_xs Ln xs (nI i + (1 : Int32)) = g_xs Ln xs (nI i + nI 1) from rfl, gx hL hi (by decide), show g_xs Ln xs (nI i + (2 : Int32)) = g_xs Ln xs (nI i + nI 2) from rfl, gx hL hi (by decide)]
  by_cases c : xs (i + 2) = 0
  · obtain ⟨⟨x, τ⟩, e1, ⟨y, ω⟩, e2, exy, hr⟩ := lift_s (xs (i + 1)) (0 : Int32) σ h
    rw [if_pos c, e1, c_I_s, gx hL hi (by decide), gx hL hi (by decide), if_pos c]
    rw [show fX12_lift 31 (xs (i + 1)) (0 : Int32) τ = some (y, ω) from e2, c_I_s, if_pos (show x = y from exy.symm), show nI i + (6 : Int32) = nI (i + 6) from nI_ad i 6]
    exact ⟨ω, rfl, hr⟩
  · obtain ⟨⟨x, τ⟩, e1, ⟨y, ω⟩, e2, exy, hr⟩ := lift_s (xs (i + 1)) (1 : Int32) σ h
    rw [if_neg c, e1, c_I_s, gx hL hi (by decide), gx hL hi (by decide), if_neg c]
    rw [show fX12_lift 31 (xs (i + 1)) (1 : Int32) τ = some (y, ω) from e2, c_I_s, if_pos (show x = y from exy.symm), show nI i + (6 : Int32) = nI (i + 6) from nI_ad i 6]
    exact ⟨ω, rfl, hr⟩
theorem lc_910 (hL : Ln ≤ 3072) (hi : i + 6 ≤ Ln) (h : Rel σ) : ∃ τ, fL_law_910 Ln xs K (nI i) σ = K (nI (i + 6)) τ ∧ Rel τ := by
  unfold fL_law_910
  rw [show g_xs Ln xs (nI i + (1 : Int32)) = g_xs Ln xs (nI i + nI 1) from rfl, gx hL hi (by decide), show g_xs Ln xs (nI i + (2 : Int32)) = g_xs Ln xs (nI i + nI 2) from rfl, gx hL hi (by decide)]
  by_cases c : xs (i + 2) = 0
  · obtain ⟨⟨x, τ⟩, e1, ⟨y, ω⟩, e2, exy, hr⟩ := hold_s (xs (i + 1)) (0 : Int32) σ h
    rw [if_pos c, e1, c_I_s, gx hL hi (by decide), gx hL hi (by decide), if_pos c]
    rw [show fX12_hold 31 (xs (i + 1)) (0 : Int32) τ = some (y, ω) from e2, c_I_s, if_pos (show x = y from exy.symm), show nI i + (6 : Int32) = nI (i + 6) from nI_ad i 6]
    exact ⟨ω, rfl, hr⟩
  · obtain ⟨⟨x, τ⟩, e1, ⟨y, ω⟩, e2, exy, hr⟩ := hold_s (xs (i + 1)) (1 : Int32) σ h
    rw [if_neg c, e1, c_I_s, gx hL hi (by decide), gx hL hi (by decide), if_neg c]
    rw [show fX12_hold 31 (xs (i + 1)) (1 : Int32) τ = some (y, ω) from e2, c_I_s, if_pos (show x = y from exy.symm), show nI i + (6 : Int32) = nI (i + 6) from nI_ad i 6]
    exact ⟨ω, rfl, hr⟩
theorem lc_959 (hL : Ln ≤ 3072) (hi : i + 6 ≤ Ln) (h : Rel σ) : ∃ τ, fL_law_959 Ln xs K (nI i) σ = K (nI (i + 6)) τ ∧ Rel τ := by
  unfold fL_law_959
  obtain ⟨⟨x, τ⟩, e1, ⟨y, ω⟩, e2, exy, hr⟩ := pass_s (xs (i + 1)) σ h
  rw [show g_xs Ln xs (nI i + (1 : Int32)) = g_xs Ln xs (nI i + nI 1) from rfl, gx hL hi (by decide), e1, c_I_s, gx hL hi (by decide), show fX12_pass 31 (xs (i + 1)) τ = some (y, ω) from e2, c_I_s, if_pos (show x = y from exy.symm), show nI i + (6 : Int32) = nI (i + 6) from nI_ad i 6]
  exact ⟨ω, rfl, hr⟩
theorem lc_982 (hL : Ln ≤ 3072) (hi : i + 6 ≤ Ln) (h : Rel σ) : ∃ τ, fL_law_982 Ln xs K (nI i) σ = K (nI (i + 6)) τ ∧ Rel τ := by
  unfold fL_law_982
  obtain ⟨⟨x, τ⟩, e1, ⟨y, ω⟩, e2, exy, hr⟩ := turn_s (xs (i + 1)) (xs (i + 2)) σ h
  rw [show g_xs Ln xs (nI i + (1 : Int32)) = g_xs Ln xs (nI i + nI 1) from rfl, gx hL hi (by decide), show g_xs Ln xs (nI i + (2 : Int32)) = g_xs Ln xs (nI i + nI 2) from rfl, gx hL hi (by decide), e1, c_I_s, gx hL hi (by decide), gx hL hi (by decide), show fX12_turn 31 (xs (i + 1)) (xs (i + 2)) τ = some (y, ω) from e2, c_I_s, if_pos (show x = y from exy.symm), show nI i + (6 : Int32) = nI (i + 6) from nI_ad i 6]
  exact ⟨ω, rfl, hr⟩
theorem lc_1015 (hL : Ln ≤ 3072) (hi : i + 6 ≤ Ln) (h : Rel σ) : ∃ τ, fL_law_1015 Ln xs K (nI i) σ = K (nI (i + 6)) τ ∧ Rel τ := by
  unfold fL_law_1015
  obtain ⟨⟨x, τ⟩, e1, ⟨y, ω⟩, e2, exy, hr⟩ := drags_s (xs (i + 1)) (xs (i + 2)) σ h
  rw [show g_xs Ln xs (nI i + (1 : Int32)) = g_xs Ln xs (nI i + nI 1) from rfl, gx hL hi (by decide), show g_xs Ln xs (nI i + (2 : Int32)) = g_xs Ln xs (nI i + nI 2) from rfl, gx hL hi (by decide), e1, c_I_s, gx hL hi (by decide), gx hL hi (by decide), show fX12_drags 31 (xs (i + 1)) (xs (i + 2)) τ = some (y, ω) from e2, c_I_s, if_pos (show x = y from exy.symm), show nI i + (6 : Int32) = nI (i + 6) from nI_ad i 6]
  exact ⟨ω, rfl, hr⟩
theorem lc_1048 (hL : Ln ≤ 3072) (hi : i + 6 ≤ Ln) (h : Rel σ) : ∃ τ, fL_law_1048 Ln xs K (nI i) σ = K (nI (i + 6)) τ ∧ Rel τ := by
  unfold fL_law_1048
  obtain ⟨⟨x, τ⟩, e1, ⟨y, ω⟩, e2, exy, hr⟩ := joined_s (xs (i + 1)) σ h
  rw [show g_xs Ln xs (nI i + (1 : Int32)) = g_xs Ln xs (nI i + nI 1) from rfl, gx hL hi (by decide), e1, c_I_s, gx hL hi (by decide), show fX12_joined 31 (xs (i + 1)) τ = some (y, ω) from e2, c_I_s, if_pos (show x = y from exy.symm), show nI i + (6 : Int32) = nI (i + 6) from nI_ad i 6]
  exact ⟨ω, rfl, hr⟩
theorem lc_1071 (hL : Ln ≤ 3072) (hi : i + 6 ≤ Ln) (h : Rel σ) : ∃ τ, fL_law_1071 Ln xs K (nI i) σ = K (nI (i + 6)) τ ∧ Rel τ := by
  unfold fL_law_1071
  obtain ⟨⟨x, τ⟩, e1, ⟨y, ω⟩, e2, exy, hr⟩ := ratio_s (xs (i + 1)) (xs (i + 2)) σ h
  rw [show g_xs Ln xs (nI i + (1 : Int32)) = g_xs Ln xs (nI i + nI 1) from rfl, gx hL hi (by decide), show g_xs Ln xs (nI i + (2 : Int32)) = g_xs Ln xs (nI i + nI 2) from rfl, gx hL hi (by decide), e1, c_I_s, gx hL hi (by decide), gx hL hi (by decide), show fX12_ratio 31 (xs (i + 1)) (xs (i + 2)) τ = some (y, ω) from e2, c_I_s, if_pos (show x = y from exy.symm), show nI i + (6 : Int32) = nI (i + 6) from nI_ad i 6]
  exact ⟨ω, rfl, hr⟩
theorem lc_1104 (hL : Ln ≤ 3072) (hi : i + 6 ≤ Ln) (h : Rel σ) : ∃ τ, fL_law_1104 Ln xs K (nI i) σ = K (nI (i + 6)) τ ∧ Rel τ := by
  unfold fL_law_1104
  obtain ⟨⟨x, τ⟩, e1, ⟨y, ω⟩, e2, exy, hr⟩ := locked_s  σ h
  rw [e1, c_I_s, show fX12_locked 31  τ = some (y, ω) from e2, c_I_s, if_pos (show x = y from exy.symm), show nI i + (6 : Int32) = nI (i + 6) from nI_ad i 6]
  exact ⟨ω, rfl, hr⟩
theorem lc_1117 (hL : Ln ≤ 3072) (hi : i + 6 ≤ Ln) (h : Rel σ) : ∃ τ, fL_law_1117 Ln xs K (nI i) σ = K (nI (i + 6)) τ ∧ Rel τ := by
  unfold fL_law_1117
  obtain ⟨⟨x, τ⟩, e1, ⟨y, ω⟩, e2, exy, hr⟩ := common_s (xs (i + 1)) σ h
  rw [show g_xs Ln xs (nI i + (1 : Int32)) = g_xs Ln xs (nI i + nI 1) from rfl, gx hL hi (by decide), e1, c_L_s, gx hL hi (by decide), show fX12_common 31 (xs (i + 1)) τ = some (y, ω) from e2, c_L_s, if_pos (show lg_cmp x y = 0 from by rw [show y = x from exy]; exact (lgc_0 _ _).mpr rfl), show nI i + (6 : Int32) = nI (i + 6) from nI_ad i 6]
  exact ⟨ω, rfl, hr⟩
theorem lc_1141 (hL : Ln ≤ 3072) (hi : i + 6 ≤ Ln) (h : Rel σ) : ∃ τ, fL_law_1141 Ln xs K (nI i) σ = K (nI (i + 6)) τ ∧ Rel τ := by
  unfold fL_law_1141
  obtain ⟨⟨x, τ⟩, e1, ⟨y, ω⟩, e2, exy, hr⟩ := sway_s (xs (i + 1)) (xs (i + 2)) σ h
  rw [show g_xs Ln xs (nI i + (1 : Int32)) = g_xs Ln xs (nI i + nI 1) from rfl, gx hL hi (by decide), show g_xs Ln xs (nI i + (2 : Int32)) = g_xs Ln xs (nI i + nI 2) from rfl, gx hL hi (by decide), e1, c_I_s, gx hL hi (by decide), gx hL hi (by decide), show fX12_sway 31 (xs (i + 1)) (xs (i + 2)) τ = some (y, ω) from e2, c_I_s, if_pos (show x = y from exy.symm), show nI i + (6 : Int32) = nI (i + 6) from nI_ad i 6]
  exact ⟨ω, rfl, hr⟩
theorem lc_1174 (hL : Ln ≤ 3072) (hi : i + 6 ≤ Ln) (h : Rel σ) : ∃ τ, fL_law_1174 Ln xs K (nI i) σ = K (nI (i + 6)) τ ∧ Rel τ := by
  unfold fL_law_1174
  obtain ⟨⟨x, τ⟩, e1, ⟨y, ω⟩, e2, exy, hr⟩ := points_s (xs (i + 1)) (xs (i + 2)) σ h
  rw [show g_xs Ln xs (nI i + (1 : Int32)) = g_xs Ln xs (nI i + nI 1) from rfl, gx hL hi (by decide), show g_xs Ln xs (nI i + (2 : Int32)) = g_xs Ln xs (nI i + nI 2) from rfl, gx hL hi (by decide), e1, c_I_s, gx hL hi (by decide), gx hL hi (by decide), show fX12_points 31 (xs (i + 1)) (xs (i + 2)) τ = some (y, ω) from e2, c_I_s, if_pos (show x = y from exy.symm), show nI i + (6 : Int32) = nI (i + 6) from nI_ad i 6]
  exact ⟨ω, rfl, hr⟩
theorem lc_1207 (hL : Ln ≤ 3072) (hi : i + 6 ≤ Ln) (h : Rel σ) : ∃ τ, fL_law_1207 Ln xs K (nI i) σ = K (nI (i + 6)) τ ∧ Rel τ := by
  unfold fL_law_1207
  obtain ⟨⟨x, τ⟩, e1, ⟨y, ω⟩, e2, exy, hr⟩ := rights_s (xs (i + 1)) σ h
  rw [show g_xs Ln xs (nI i + (1 : Int32)) = g_xs Ln xs (nI i + nI 1) from rfl, gx hL hi (by decide), e1, c_I_s, gx hL hi (by decide), show fX12_rights 31 (xs (i + 1)) τ = some (y, ω) from e2, c_I_s, if_pos (show x = y from exy.symm), show nI i + (6 : Int32) = nI (i + 6) from nI_ad i 6]
  exact ⟨ω, rfl, hr⟩
theorem lc_1230 (hL : Ln ≤ 3072) (hi : i + 6 ≤ Ln) (h : Rel σ) : ∃ τ, fL_law_1230 Ln xs K (nI i) σ = K (nI (i + 6)) τ ∧ Rel τ := by
  unfold fL_law_1230
  obtain ⟨⟨x, τ⟩, e1, ⟨y, ω⟩, e2, exy, hr⟩ := again_s (xs (i + 1)) σ h
  rw [show g_xs Ln xs (nI i + (1 : Int32)) = g_xs Ln xs (nI i + nI 1) from rfl, gx hL hi (by decide), e1, c_I_s, gx hL hi (by decide), show fX12_again 31 (xs (i + 1)) τ = some (y, ω) from e2, c_I_s, if_pos (show x = y from exy.symm), show nI i + (6 : Int32) = nI (i + 6) from nI_ad i 6]
  exact ⟨ω, rfl, hr⟩
theorem lc_1253 (hL : Ln ≤ 3072) (hi : i + 6 ≤ Ln) (h : Rel σ) : ∃ τ, fL_law_1253 Ln xs K (nI i) σ = K (nI (i + 6)) τ ∧ Rel τ := by
  unfold fL_law_1253
  obtain ⟨⟨x, τ⟩, e1, ⟨y, ω⟩, e2, exy, hr⟩ := strikes_s (xs (i + 1)) (xs (i + 2)) σ h
  rw [show g_xs Ln xs (nI i + (1 : Int32)) = g_xs Ln xs (nI i + nI 1) from rfl, gx hL hi (by decide), show g_xs Ln xs (nI i + (2 : Int32)) = g_xs Ln xs (nI i + nI 2) from rfl, gx hL hi (by decide), e1, c_I_s, gx hL hi (by decide), gx hL hi (by decide), show fX12_strikes 31 (xs (i + 1)) (xs (i + 2)) τ = some (y, ω) from e2, c_I_s, if_pos (show x = y from exy.symm), show nI i + (6 : Int32) = nI (i + 6) from nI_ad i 6]
  exact ⟨ω, rfl, hr⟩
theorem lc_1286 (hL : Ln ≤ 3072) (hi : i + 6 ≤ Ln) (h : Rel σ) : ∃ τ, fL_law_1286 Ln xs K (nI i) σ = K (nI (i + 6)) τ ∧ Rel τ := by
  unfold fL_law_1286
  obtain ⟨⟨x, τ⟩, e1, ⟨y, ω⟩, e2, exy, hr⟩ := bell_s (xs (i + 1)) (xs (i + 2)) σ h
  rw [show g_xs Ln xs (nI i + (1 : Int32)) = g_xs Ln xs (nI i + nI 1) from rfl, gx hL hi (by decide), show g_xs Ln xs (nI i + (2 : Int32)) = g_xs Ln xs (nI i + nI 2) from rfl, gx hL hi (by decide), e1, c_I_s, gx hL hi (by decide), gx hL hi (by decide), show fX12_bell 31 (xs (i + 1)) (xs (i + 2)) τ = some (y, ω) from e2, c_I_s, if_pos (show x = y from exy.symm), show nI i + (6 : Int32) = nI (i + 6) from nI_ad i 6]
  exact ⟨ω, rfl, hr⟩
theorem lc_1319 (hL : Ln ≤ 3072) (hi : i + 6 ≤ Ln) (h : Rel σ) : ∃ τ, fL_law_1319 Ln xs K (nI i) σ = K (nI (i + 6)) τ ∧ Rel τ := by
  unfold fL_law_1319
  obtain ⟨⟨x, τ⟩, e1, ⟨y, ω⟩, e2, exy, hr⟩ := wrong_s (xs (i + 1)) (xs (i + 2)) σ h
  rw [show g_xs Ln xs (nI i + (1 : Int32)) = g_xs Ln xs (nI i + nI 1) from rfl, gx hL hi (by decide), show g_xs Ln xs (nI i + (2 : Int32)) = g_xs Ln xs (nI i + nI 2) from rfl, gx hL hi (by decide), e1, c_I_s, gx hL hi (by decide), gx hL hi (by decide), show fX12_wrong 31 (xs (i + 1)) (xs (i + 2)) τ = some (y, ω) from e2, c_I_s, if_pos (show x = y from exy.symm), show nI i + (6 : Int32) = nI (i + 6) from nI_ad i 6]
  exact ⟨ω, rfl, hr⟩
theorem lc_1352 (hL : Ln ≤ 3072) (hi : i + 6 ≤ Ln) (h : Rel σ) : ∃ τ, fL_law_1352 Ln xs K (nI i) σ = K (nI (i + 6)) τ ∧ Rel τ := by
  unfold fL_law_1352
  obtain ⟨⟨x, τ⟩, e1, ⟨y, ω⟩, e2, exy, hr⟩ := holding_s (xs (i + 1)) (xs (i + 2)) σ h
  rw [show g_xs Ln xs (nI i + (1 : Int32)) = g_xs Ln xs (nI i + nI 1) from rfl, gx hL hi (by decide), show g_xs Ln xs (nI i + (2 : Int32)) = g_xs Ln xs (nI i + nI 2) from rfl, gx hL hi (by decide), e1, c_I_s, gx hL hi (by decide), gx hL hi (by decide), show fX12_holding 31 (xs (i + 1)) (xs (i + 2)) τ = some (y, ω) from e2, c_I_s, if_pos (show x = y from exy.symm), show nI i + (6 : Int32) = nI (i + 6) from nI_ad i 6]
  exact ⟨ω, rfl, hr⟩
theorem lc_1385 (hL : Ln ≤ 3072) (hi : i + 6 ≤ Ln) (h : Rel σ) : ∃ τ, fL_law_1385 Ln xs K (nI i) σ = K (nI (i + 6)) τ ∧ Rel τ := by
  unfold fL_law_1385
  obtain ⟨⟨x, τ⟩, e1, ⟨y, ω⟩, e2, exy, hr⟩ := helpers_s (xs (i + 1)) σ h
  rw [show g_xs Ln xs (nI i + (1 : Int32)) = g_xs Ln xs (nI i + nI 1) from rfl, gx hL hi (by decide), e1, c_I_s, gx hL hi (by decide), show fX12_helpers 31 (xs (i + 1)) τ = some (y, ω) from e2, c_I_s, if_pos (show x = y from exy.symm), show nI i + (6 : Int32) = nI (i + 6) from nI_ad i 6]
  exact ⟨ω, rfl, hr⟩
theorem lc_1408 (hL : Ln ≤ 3072) (hi : i + 6 ≤ Ln) (h : Rel σ) : ∃ τ, fL_law_1408 Ln xs K (nI i) σ = K (nI (i + 6)) τ ∧ Rel τ := by
  unfold fL_law_1408
  obtain ⟨⟨x, τ⟩, e1, ⟨y, ω⟩, e2, exy, hr⟩ := firstToTurn_s  σ h
  rw [e1, c_I_s, show fX12_firstToTurn 31  τ = some (y, ω) from e2, c_I_s, if_pos (show x = y from exy.symm), show nI i + (6 : Int32) = nI (i + 6) from nI_ad i 6]
  exact ⟨ω, rfl, hr⟩
theorem lc_1421 (hL : Ln ≤ 3072) (hi : i + 6 ≤ Ln) (h : Rel σ) : ∃ τ, fL_law_1421 Ln xs K (nI i) σ = K (nI (i + 6)) τ ∧ Rel τ := by
  unfold fL_law_1421
  obtain ⟨⟨x, τ⟩, e1, ⟨y, ω⟩, e2, exy, hr⟩ := heaviest_s  σ h
  rw [e1, c_I_s, show fX12_heaviest 31  τ = some (y, ω) from e2, c_I_s, if_pos (show x = y from exy.symm), show nI i + (6 : Int32) = nI (i + 6) from nI_ad i 6]
  exact ⟨ω, rfl, hr⟩
theorem lc_1434 (hL : Ln ≤ 3072) (hi : i + 6 ≤ Ln) (h : Rel σ) : ∃ τ, fL_law_1434 Ln xs K (nI i) σ = K (nI (i + 6)) τ ∧ Rel τ := by
  unfold fL_law_1434
  obtain ⟨⟨x, τ⟩, e1, ⟨y, ω⟩, e2, exy, hr⟩ := farthest_s  σ h
  rw [e1, c_I_s, show fX12_farthest 31  τ = some (y, ω) from e2, c_I_s, if_pos (show x = y from exy.symm), show nI i + (6 : Int32) = nI (i + 6) from nI_ad i 6]
  exact ⟨ω, rfl, hr⟩
theorem lc_1447 (hL : Ln ≤ 3072) (hi : i + 6 ≤ Ln) (h : Rel σ) : ∃ τ, fL_law_1447 Ln xs K (nI i) σ = K (nI (i + 6)) τ ∧ Rel τ := by
  unfold fL_law_1447
  obtain ⟨⟨x, τ⟩, e1, ⟨y, ω⟩, e2, exy, hr⟩ := calmed_s  σ h
  rw [e1, c_I_s, show fX12_calmed 31  τ = some (y, ω) from e2, c_I_s, if_pos (show x = y from exy.symm), show nI i + (6 : Int32) = nI (i + 6) from nI_ad i 6]
  exact ⟨ω, rfl, hr⟩
theorem lc_1460 (hL : Ln ≤ 3072) (hi : i + 6 ≤ Ln) (h : Rel σ) : ∃ τ, fL_law_1460 Ln xs K (nI i) σ = K (nI (i + 6)) τ ∧ Rel τ := by
  unfold fL_law_1460
  obtain ⟨⟨x, τ⟩, e1, ⟨y, ω⟩, e2, exy, hr⟩ := teeth_s (xs (i + 1)) σ h
  rw [show g_xs Ln xs (nI i + (1 : Int32)) = g_xs Ln xs (nI i + nI 1) from rfl, gx hL hi (by decide), e1, c_I_s, gx hL hi (by decide), show fX12_teeth 31 (xs (i + 1)) τ = some (y, ω) from e2, c_I_s, if_pos (show x = y from exy.symm), show nI i + (6 : Int32) = nI (i + 6) from nI_ad i 6]
  exact ⟨ω, rfl, hr⟩
theorem lc_1483 (hL : Ln ≤ 3072) (hi : i + 6 ≤ Ln) (h : Rel σ) : ∃ τ, fL_law_1483 Ln xs K (nI i) σ = K (nI (i + 6)) τ ∧ Rel τ := by
  unfold fL_law_1483
  obtain ⟨⟨x, τ⟩, e1, ⟨y, ω⟩, e2, exy, hr⟩ := bestWind_s (xs (i + 1)) (xs (i + 2)) σ h
  rw [show g_xs Ln xs (nI i + (1 : Int32)) = g_xs Ln xs (nI i + nI 1) from rfl, gx hL hi (by decide), show g_xs Ln xs (nI i + (2 : Int32)) = g_xs Ln xs (nI i + nI 2) from rfl, gx hL hi (by decide), e1, c_I_s, gx hL hi (by decide), gx hL hi (by decide), show fX12_bestWind 31 (xs (i + 1)) (xs (i + 2)) τ = some (y, ω) from e2, c_I_s, if_pos (show x = y from exy.symm), show nI i + (6 : Int32) = nI (i + 6) from nI_ad i 6]
  exact ⟨ω, rfl, hr⟩
theorem lc_1516 (hL : Ln ≤ 3072) (hi : i + 6 ≤ Ln) (h : Rel σ) : ∃ τ, fL_law_1516 Ln xs K (nI i) σ = K (nI (i + 6)) τ ∧ Rel τ := by
  unfold fL_law_1516
  obtain ⟨⟨x, τ⟩, e1, ⟨y, ω⟩, e2, exy, hr⟩ := parting_s  σ h
  rw [e1, c_I_s, show fX12_parting 31  τ = some (y, ω) from e2, c_I_s, if_pos (show x = y from exy.symm), show nI i + (6 : Int32) = nI (i + 6) from nI_ad i 6]
  exact ⟨ω, rfl, hr⟩
theorem lc_1529 (hL : Ln ≤ 3072) (hi : i + 6 ≤ Ln) (h : Rel σ) : ∃ τ, fL_law_1529 Ln xs K (nI i) σ = K (nI (i + 6)) τ ∧ Rel τ := by
  unfold fL_law_1529
  obtain ⟨⟨x, τ⟩, e1, ⟨y, ω⟩, e2, exy, hr⟩ := mending_s (xs (i + 1)) σ h
  rw [show g_xs Ln xs (nI i + (1 : Int32)) = g_xs Ln xs (nI i + nI 1) from rfl, gx hL hi (by decide), e1, c_I_s, gx hL hi (by decide), show fX12_mending 31 (xs (i + 1)) τ = some (y, ω) from e2, c_I_s, if_pos (show x = y from exy.symm), show nI i + (6 : Int32) = nI (i + 6) from nI_ad i 6]
  exact ⟨ω, rfl, hr⟩
theorem lc_1552 (hL : Ln ≤ 3072) (hi : i + 6 ≤ Ln) (h : Rel σ) : ∃ τ, fL_law_1552 Ln xs K (nI i) σ = K (nI (i + 6)) τ ∧ Rel τ := by
  unfold fL_law_1552
  obtain ⟨⟨x, τ⟩, e1, ⟨y, ω⟩, e2, exy, hr⟩ := leaving_s (xs (i + 1)) σ h
  rw [show g_xs Ln xs (nI i + (1 : Int32)) = g_xs Ln xs (nI i + nI 1) from rfl, gx hL hi (by decide), e1, c_I_s, gx hL hi (by decide), show fX12_leaving 31 (xs (i + 1)) τ = some (y, ω) from e2, c_I_s, if_pos (show x = y from exy.symm), show nI i + (6 : Int32) = nI (i + 6) from nI_ad i 6]
  exact ⟨ω, rfl, hr⟩
theorem lc_1575 (hL : Ln ≤ 3072) (hi : i + 6 ≤ Ln) (h : Rel σ) : ∃ τ, fL_law_1575 Ln xs K (nI i) σ = K (nI (i + 6)) τ ∧ Rel τ := by
  unfold fL_law_1575
  obtain ⟨⟨x, τ⟩, e1, ⟨y, ω⟩, e2, exy, hr⟩ := knowing_s (xs (i + 1)) σ h
  rw [show g_xs Ln xs (nI i + (1 : Int32)) = g_xs Ln xs (nI i + nI 1) from rfl, gx hL hi (by decide), e1, c_I_s, gx hL hi (by decide), show fX12_knowing 31 (xs (i + 1)) τ = some (y, ω) from e2, c_I_s, if_pos (show x = y from exy.symm), show nI i + (6 : Int32) = nI (i + 6) from nI_ad i 6]
  exact ⟨ω, rfl, hr⟩
theorem lc_1598 (hL : Ln ≤ 3072) (hi : i + 6 ≤ Ln) (h : Rel σ) : ∃ τ, fL_law_1598 Ln xs K (nI i) σ = K (nI (i + 6)) τ ∧ Rel τ := by
  unfold fL_law_1598
  obtain ⟨⟨x, τ⟩, e1, ⟨y, ω⟩, e2, exy, hr⟩ := whole_s (xs (i + 1)) (xs (i + 2)) σ h
  rw [show g_xs Ln xs (nI i + (1 : Int32)) = g_xs Ln xs (nI i + nI 1) from rfl, gx hL hi (by decide), show g_xs Ln xs (nI i + (2 : Int32)) = g_xs Ln xs (nI i + nI 2) from rfl, gx hL hi (by decide), e1, c_I_s, gx hL hi (by decide), gx hL hi (by decide), show fX12_whole 31 (xs (i + 1)) (xs (i + 2)) τ = some (y, ω) from e2, c_I_s, if_pos (show x = y from exy.symm), show nI i + (6 : Int32) = nI (i + 6) from nI_ad i 6]
  exact ⟨ω, rfl, hr⟩
theorem lc_1631 (hL : Ln ≤ 3072) (hi : i + 6 ≤ Ln) (h : Rel σ) : ∃ τ, fL_law_1631 Ln xs K (nI i) σ = K (nI (i + 6)) τ ∧ Rel τ := by
  unfold fL_law_1631
  obtain ⟨⟨x, τ⟩, e1, ⟨y, ω⟩, e2, exy, hr⟩ := broken_s (xs (i + 1)) (xs (i + 2)) σ h
  rw [show g_xs Ln xs (nI i + (1 : Int32)) = g_xs Ln xs (nI i + nI 1) from rfl, gx hL hi (by decide), show g_xs Ln xs (nI i + (2 : Int32)) = g_xs Ln xs (nI i + nI 2) from rfl, gx hL hi (by decide), e1, c_I_s, gx hL hi (by decide), gx hL hi (by decide), show fX12_broken 31 (xs (i + 1)) (xs (i + 2)) τ = some (y, ω) from e2, c_I_s, if_pos (show x = y from exy.symm), show nI i + (6 : Int32) = nI (i + 6) from nI_ad i 6]
  exact ⟨ω, rfl, hr⟩
theorem lc_1664 (hL : Ln ≤ 3072) (hi : i + 6 ≤ Ln) (h : Rel σ) : ∃ τ, fL_law_1664 Ln xs K (nI i) σ = K (nI (i + 6)) τ ∧ Rel τ := by
  unfold fL_law_1664
  obtain ⟨⟨x, τ⟩, e1, ⟨y, ω⟩, e2, exy, hr⟩ := run_s (xs (i + 1)) σ h
  rw [show g_xs Ln xs (nI i + (1 : Int32)) = g_xs Ln xs (nI i + nI 1) from rfl, gx hL hi (by decide), e1, c_I_s, gx hL hi (by decide), show fX12_run 31 (xs (i + 1)) τ = some (y, ω) from e2, c_I_s, if_pos (show x = y from exy.symm), show nI i + (6 : Int32) = nI (i + 6) from nI_ad i 6]
  exact ⟨ω, rfl, hr⟩
theorem lc_1687 (hL : Ln ≤ 3072) (hi : i + 6 ≤ Ln) (h : Rel σ) : ∃ τ, fL_law_1687 Ln xs K (nI i) σ = K (nI (i + 6)) τ ∧ Rel τ := by
  unfold fL_law_1687
  obtain ⟨⟨x, τ⟩, e1, ⟨y, ω⟩, e2, exy, hr⟩ := ran_s (xs (i + 1)) σ h
  rw [show g_xs Ln xs (nI i + (1 : Int32)) = g_xs Ln xs (nI i + nI 1) from rfl, gx hL hi (by decide), e1, c_I_s, gx hL hi (by decide), show fX12_ran 31 (xs (i + 1)) τ = some (y, ω) from e2, c_I_s, if_pos (show x = y from exy.symm), show nI i + (6 : Int32) = nI (i + 6) from nI_ad i 6]
  exact ⟨ω, rfl, hr⟩
theorem lc_1710 (hL : Ln ≤ 3072) (hi : i + 6 ≤ Ln) (h : Rel σ) : ∃ τ, fL_law_1710 Ln xs K (nI i) σ = K (nI (i + 6)) τ ∧ Rel τ := by
  unfold fL_law_1710
  obtain ⟨⟨x, τ⟩, e1, ⟨y, ω⟩, e2, exy, hr⟩ := ranTo_s (xs (i + 1)) σ h
  rw [show g_xs Ln xs (nI i + (1 : Int32)) = g_xs Ln xs (nI i + nI 1) from rfl, gx hL hi (by decide), e1, c_I_s, gx hL hi (by decide), show fX12_ranTo 31 (xs (i + 1)) τ = some (y, ω) from e2, c_I_s, if_pos (show x = y from exy.symm), show nI i + (6 : Int32) = nI (i + 6) from nI_ad i 6]
  exact ⟨ω, rfl, hr⟩
theorem lc_1733 (hL : Ln ≤ 3072) (hi : i + 6 ≤ Ln) (h : Rel σ) : ∃ τ, fL_law_1733 Ln xs K (nI i) σ = K (nI (i + 6)) τ ∧ Rel τ := by
  unfold fL_law_1733
  obtain ⟨⟨x, τ⟩, e1, ⟨y, ω⟩, e2, exy, hr⟩ := odds_s (xs (i + 1)) (xs (i + 2)) (xs (i + 3)) σ h
  rw [show g_xs Ln xs (nI i + (1 : Int32)) = g_xs Ln xs (nI i + nI 1) from rfl, gx hL hi (by decide), show g_xs Ln xs (nI i + (2 : Int32)) = g_xs Ln xs (nI i + nI 2) from rfl, gx hL hi (by decide), show g_xs Ln xs (nI i + (3 : Int32)) = g_xs Ln xs (nI i + nI 3) from rfl, gx hL hi (by decide), e1, c_I_s, gx hL hi (by decide), gx hL hi (by decide), gx hL hi (by decide), show fX12_odds 31 (xs (i + 1)) (xs (i + 2)) (xs (i + 3)) τ = some (y, ω) from e2, c_I_s, if_pos (show x = y from exy.symm), show nI i + (6 : Int32) = nI (i + 6) from nI_ad i 6]
  exact ⟨ω, rfl, hr⟩
theorem lc_1776 (hL : Ln ≤ 3072) (hi : i + 6 ≤ Ln) (h : Rel σ) : ∃ τ, fL_law_1776 Ln xs K (nI i) σ = K (nI (i + 6)) τ ∧ Rel τ := by
  unfold fL_law_1776
  obtain ⟨⟨x, τ⟩, e1, ⟨y, ω⟩, e2, exy, hr⟩ := mark_s  σ h
  rw [e1, c_I_s, show fX12_mark 31  τ = some (y, ω) from e2, c_I_s, if_pos (show x = y from exy.symm), show nI i + (6 : Int32) = nI (i + 6) from nI_ad i 6]
  exact ⟨ω, rfl, hr⟩
theorem lc_1789 (hL : Ln ≤ 3072) (hi : i + 6 ≤ Ln) (h : Rel σ) : ∃ τ, fL_law_1789 Ln xs K (nI i) σ = K (nI (i + 6)) τ ∧ Rel τ := by
  unfold fL_law_1789
  obtain ⟨⟨x, τ⟩, e1, ⟨y, ω⟩, e2, exy, hr⟩ := back_s  σ h
  rw [e1, c_I_s, show fX12_back 31  τ = some (y, ω) from e2, c_I_s, if_pos (show x = y from exy.symm), show nI i + (6 : Int32) = nI (i + 6) from nI_ad i 6]
  exact ⟨ω, rfl, hr⟩
theorem ofN (n : Nat) : Int32.ofNat n = nI n := by
  apply Int32.toBitVec_inj.mp
  rw [nI_bv]; rfl
theorem law_l (hvil : ∀ (a : Int32) (σ : Mm), Rel σ → ok (fX11_village 0 a σ) (fun q => ok (fX12_village 31 a q.2) (fun q' => q'.1 = q.1 ∧ Rel q'.2))) (hord : ∀ (a : Int32) (σ : Mm), Rel σ → ok (fX11_orders 0 a σ) (fun q => ok (fX12_orders 31 a q.2) (fun q' => q'.1 = q.1 ∧ Rel q'.2))) (hL : Ln ≤ 3072) : ∀ (n i : Nat) (σ : Mm), i ≤ Ln → Ln - i < n → Rel σ → ∃ τ, fL_law_18 Ln xs n (nI i) σ = some τ := by
  intro n
  induction n with
  | zero => intro i σ _ h; omega
  | succ n ih =>
    intro i σ hi hn h
    rw [fL_law_18, ofN, show nI Ln - (6 : Int32) = nI Ln - nI 6 from rfl]
    by_cases c : nI Ln - nI 6 < nI i
    · rw [if_pos c]; exact ⟨σ, rfl⟩
    · have hi6 : i + 6 ≤ Ln := by
        rw [sub_lt (by omega) (by decide) (by omega)] at c; omega
      rw [if_neg c, g_xs_n (by omega) (by omega)]
      have go : ∀ {X : Option Mm}, (∃ τ, X = fL_law_18 Ln xs n (nI (i + 6)) τ ∧ Rel τ) → ∃ τ, X = some τ := by
        rintro X ⟨τ, e, hr⟩
        obtain ⟨ω, f⟩ := ih (i + 6) τ (by omega) (by omega) hr
        exact ⟨ω, e.trans f⟩
      by_cases c0 : (xs i &&& (63 : Int32)) = (0 : Int32)
      · rw [if_pos c0]; exact go (lc_264 hL hi6 h)
      rw [if_neg c0]
      by_cases c1 : (xs i &&& (63 : Int32)) = (1 : Int32)
      · rw [if_pos c1]; exact go (lc_277 hL hi6 h)
      rw [if_neg c1]
      by_cases c2 : (xs i &&& (63 : Int32)) = (2 : Int32)
      · rw [if_pos c2]; exact go (lc_291 hL hi6 h)
      rw [if_neg c2]
      by_cases c3 : (xs i &&& (63 : Int32)) = (3 : Int32)
      · rw [if_pos c3]; exact go (lc_305 hL hi6 h)
      rw [if_neg c3]
      by_cases c4 : (xs i &&& (63 : Int32)) = (4 : Int32)
      · rw [if_pos c4]; exact go (lc_348 hL hi6 h)
      rw [if_neg c4]
      by_cases c5 : (xs i &&& (63 : Int32)) = (5 : Int32)
      · rw [if_pos c5]; exact go (lc_421 hL hi6 h)
      rw [if_neg c5]
      by_cases c6 : (xs i &&& (63 : Int32)) = (6 : Int32)
      · rw [if_pos c6]; exact go (lc_455 hL hi6 h)
      rw [if_neg c6]
      by_cases c7 : (xs i &&& (63 : Int32)) = (7 : Int32)
      · rw [if_pos c7]; exact go (lc_518 hL hi6 h)
      rw [if_neg c7]
      by_cases c8 : (xs i &&& (63 : Int32)) = (8 : Int32)
      · rw [if_pos c8]; exact go (lc_581 hvil hL hi6 h)
      rw [if_neg c8]
      by_cases c9 : (xs i &&& (63 : Int32)) = (9 : Int32)
      · rw [if_pos c9]; exact go (lc_604 hord hL hi6 h)
      rw [if_neg c9]
      by_cases c10 : (xs i &&& (63 : Int32)) = (10 : Int32)
      · rw [if_pos c10]; exact go (lc_627 hL hi6 h)
      rw [if_neg c10]
      by_cases c11 : (xs i &&& (63 : Int32)) = (11 : Int32)
      · rw [if_pos c11]; exact go (lc_650 hL hi6 h)
      rw [if_neg c11]
      by_cases c12 : (xs i &&& (63 : Int32)) = (12 : Int32)
      · rw [if_pos c12]; exact go (lc_673 hL hi6 h)
      rw [if_neg c12]
      by_cases c13 : (xs i &&& (63 : Int32)) = (13 : Int32)
      · rw [if_pos c13]; exact go (lc_706 hL hi6 h)
      rw [if_neg c13]
      by_cases c14 : (xs i &&& (63 : Int32)) = (14 : Int32)
      · rw [if_pos c14]; exact go (lc_739 hL hi6 h)
      rw [if_neg c14]
      by_cases c15 : (xs i &&& (63 : Int32)) = (15 : Int32)
      · rw [if_pos c15]; exact go (lc_762 hL hi6 h)
      rw [if_neg c15]
      by_cases c16 : (xs i &&& (63 : Int32)) = (16 : Int32)
      · rw [if_pos c16]; exact go (lc_785 hL hi6 h)
      rw [if_neg c16]
      by_cases c17 : (xs i &&& (63 : Int32)) = (17 : Int32)
      · rw [if_pos c17]; exact go (lc_828 hL hi6 h)
      rw [if_neg c17]
      by_cases c18 : (xs i &&& (63 : Int32)) = (18 : Int32)
      · rw [if_pos c18]; exact go (lc_861 hL hi6 h)
      rw [if_neg c18]
      by_cases c19 : (xs i &&& (63 : Int32)) = (19 : Int32)
      · rw [if_pos c19]; exact go (lc_910 hL hi6 h)
      rw [if_neg c19]
      by_cases c20 : (xs i &&& (63 : Int32)) = (20 : Int32)
      · rw [if_pos c20]; exact go (lc_959 hL hi6 h)
      rw [if_neg c20]
      by_cases c21 : (xs i &&& (63 : Int32)) = (21 : Int32)
      · rw [if_pos c21]; exact go (lc_982 hL hi6 h)
      rw [if_neg c21]
      by_cases c22 : (xs i &&& (63 : Int32)) = (22 : Int32)
      · rw [if_pos c22]; exact go (lc_1015 hL hi6 h)
      rw [if_neg c22]
      by_cases c23 : (xs i &&& (63 : Int32)) = (23 : Int32)
      · rw [if_pos c23]; exact go (lc_1048 hL hi6 h)
      rw [if_neg c23]
      by_cases c24 : (xs i &&& (63 : Int32)) = (24 : Int32)
      · rw [if_pos c24]; exact go (lc_1071 hL hi6 h)
      rw [if_neg c24]
      by_cases c25 : (xs i &&& (63 : Int32)) = (25 : Int32)
      · rw [if_pos c25]; exact go (lc_1104 hL hi6 h)
      rw [if_neg c25]
      by_cases c26 : (xs i &&& (63 : Int32)) = (26 : Int32)
      · rw [if_pos c26]; exact go (lc_1117 hL hi6 h)
      rw [if_neg c26]
      by_cases c27 : (xs i &&& (63 : Int32)) = (27 : Int32)
      · rw [if_pos c27]; exact go (lc_1141 hL hi6 h)
      rw [if_neg c27]
      by_cases c28 : (xs i &&& (63 : Int32)) = (28 : Int32)
      · rw [if_pos c28]; exact go (lc_1174 hL hi6 h)
      rw [if_neg c28]
      by_cases c29 : (xs i &&& (63 : Int32)) = (29 : Int32)
      · rw [if_pos c29]; exact go (lc_1207 hL hi6 h)
      rw [if_neg c29]
      by_cases c30 : (xs i &&& (63 : Int32)) = (30 : Int32)
      · rw [if_pos c30]; exact go (lc_1230 hL hi6 h)
      rw [if_neg c30]
      by_cases c31 : (xs i &&& (63 : Int32)) = (31 : Int32)
      · rw [if_pos c31]; exact go (lc_1253 hL hi6 h)
      rw [if_neg c31]
      by_cases c32 : (xs i &&& (63 : Int32)) = (32 : Int32)
      · rw [if_pos c32]; exact go (lc_1286 hL hi6 h)
      rw [if_neg c32]
      by_cases c33 : (xs i &&& (63 : Int32)) = (33 : Int32)
      · rw [if_pos c33]; exact go (lc_1319 hL hi6 h)
      rw [if_neg c33]
      by_cases c34 : (xs i &&& (63 : Int32)) = (34 : Int32)
      · rw [if_pos c34]; exact go (lc_1352 hL hi6 h)
      rw [if_neg c34]
      by_cases c35 : (xs i &&& (63 : Int32)) = (35 : Int32)
      · rw [if_pos c35]; exact go (lc_1385 hL hi6 h)
      rw [if_neg c35]
      by_cases c36 : (xs i &&& (63 : Int32)) = (36 : Int32)
      · rw [if_pos c36]; exact go (lc_1408 hL hi6 h)
      rw [if_neg c36]
      by_cases c37 : (xs i &&& (63 : Int32)) = (37 : Int32)
      · rw [if_pos c37]; exact go (lc_1421 hL hi6 h)
      rw [if_neg c37]
      by_cases c38 : (xs i &&& (63 : Int32)) = (38 : Int32)
      · rw [if_pos c38]; exact go (lc_1434 hL hi6 h)
      rw [if_neg c38]
      by_cases c39 : (xs i &&& (63 : Int32)) = (39 : Int32)
      · rw [if_pos c39]; exact go (lc_1447 hL hi6 h)
      rw [if_neg c39]
      by_cases c40 : (xs i &&& (63 : Int32)) = (40 : Int32)
      · rw [if_pos c40]; exact go (lc_1460 hL hi6 h)
      rw [if_neg c40]
      by_cases c41 : (xs i &&& (63 : Int32)) = (41 : Int32)
      · rw [if_pos c41]; exact go (lc_1483 hL hi6 h)
      rw [if_neg c41]
      by_cases c42 : (xs i &&& (63 : Int32)) = (42 : Int32)
      · rw [if_pos c42]; exact go (lc_1516 hL hi6 h)
      rw [if_neg c42]
      by_cases c43 : (xs i &&& (63 : Int32)) = (43 : Int32)
      · rw [if_pos c43]; exact go (lc_1529 hL hi6 h)
      rw [if_neg c43]
      by_cases c44 : (xs i &&& (63 : Int32)) = (44 : Int32)
      · rw [if_pos c44]; exact go (lc_1552 hL hi6 h)
      rw [if_neg c44]
      by_cases c45 : (xs i &&& (63 : Int32)) = (45 : Int32)
      · rw [if_pos c45]; exact go (lc_1575 hL hi6 h)
      rw [if_neg c45]
      by_cases c46 : (xs i &&& (63 : Int32)) = (46 : Int32)
      · rw [if_pos c46]; exact go (lc_1598 hL hi6 h)
      rw [if_neg c46]
      by_cases c47 : (xs i &&& (63 : Int32)) = (47 : Int32)
      · rw [if_pos c47]; exact go (lc_1631 hL hi6 h)
      rw [if_neg c47]
      by_cases c48 : (xs i &&& (63 : Int32)) = (48 : Int32)
      · rw [if_pos c48]; exact go (lc_1664 hL hi6 h)
      rw [if_neg c48]
      by_cases c49 : (xs i &&& (63 : Int32)) = (49 : Int32)
      · rw [if_pos c49]; exact go (lc_1687 hL hi6 h)
      rw [if_neg c49]
      by_cases c50 : (xs i &&& (63 : Int32)) = (50 : Int32)
      · rw [if_pos c50]; exact go (lc_1710 hL hi6 h)
      rw [if_neg c50]
      by_cases c51 : (xs i &&& (63 : Int32)) = (51 : Int32)
      · rw [if_pos c51]; exact go (lc_1733 hL hi6 h)
      rw [if_neg c51]
      by_cases c52 : (xs i &&& (63 : Int32)) = (52 : Int32)
      · rw [if_pos c52]; exact go (lc_1776 hL hi6 h)
      rw [if_neg c52]
      by_cases c53 : (xs i &&& (63 : Int32)) = (53 : Int32)
      · rw [if_pos c53]; exact go (lc_1789 hL hi6 h)
      rw [if_neg c53]
      exact go ⟨σ, by rw [show nI i + (6 : Int32) = nI (i + 6) from nI_ad i 6], h⟩
end LAW
/-! the beginning -/
def D0 : PD := ((0, 0, 0), (fun _ => 0, fun _ => 0, fun _ => 0), (fun _ => 0, fun _ => 0, fun _ => 0, fun _ => false), (fun _ => 0, fun _ => 0, fun _ => 0))
def V0 : SD := ((fun _ => 0, fun _ => 0), (fun _ => 0, fun _ => 0, fun _ => 0), (fun _ => 0), (0, 0), 0)
def O0 : OD := ((false, 0, 0), fun _ => 0, fun _ => 0, fun _ => 0, fun _ => 0, fun _ => 0)
def G0 : GS := ((0, 0, 1), (-1, -1), (fun _ => none), (0, fun _ => 0), (D0, V0, O0), (0, fun _ => (D0, V0, O0)), none, fun _ => 0)
theorem G0_w : WFG G0 := by
  refine ⟨fun t _ q h => (by cases h), ⟨by decide, fun k hk => absurd hk (Nat.not_lt_zero _)⟩, ⟨⟨by decide, fun v hv => absurd hv (Nat.not_lt_zero _), fun v hv => absurd hv (Nat.not_lt_zero _)⟩, ⟨fun q _ => ⟨show 0 < 16 by decide, show 0 ≤ 99 by decide⟩, fun v hv => absurd hv (Nat.not_lt_zero _), fun v hv => absurd hv (Nat.not_lt_zero _), by decide, by decide, by decide⟩, fun h => (by cases h)⟩, by decide, fun i hi => absurd hi (Nat.not_lt_zero _), fun q h => (by cases h), fun o _ => Nat.zero_le _⟩
theorem G0_c : RepC mm0 G0 := by
  refine ⟨⟨rfl, rfl, rfl, rfl, rfl⟩, fun t ht => ?_, ⟨rfl, fun k hk => absurd hk (Nat.not_lt_zero _)⟩, ⟨5, 7, ⟨rfl, rfl, Or.inl ⟨rfl, rfl⟩, Or.inl ⟨rfl, rfl⟩, fun i hi => ?_⟩, ⟨⟨rfl, rfl, rfl⟩, fun v hv => absurd hv (Nat.not_lt_zero _), fun v hv => absurd hv (Nat.not_lt_zero _), fun v hv => absurd hv (Nat.not_lt_zero _), fun v hv => absurd hv (Nat.not_lt_zero _), fun v hv => absurd hv (Nat.not_lt_zero _)⟩, ⟨fun q _ => ⟨rfl, rfl⟩, fun v hv => absurd hv (Nat.not_lt_zero _), fun v hv => absurd hv (Nat.not_lt_zero _), rfl, rfl, rfl⟩, rfl, fun h => (by cases h)⟩, ⟨rfl, fun i hi => absurd hi (Nat.not_lt_zero _)⟩, ⟨rfl, rfl⟩, fun o _ => rfl⟩
  · show m_sc mm0 (15 + t) 0 = -1
    have : t = 0 ∨ t = 1 ∨ t = 2 ∨ t = 3 := by omega
    rcases this with rfl | rfl | rfl | rfl <;> rfl
  · have : i = 0 ∨ i = 1 ∨ i = 2 := by omega
    rcases this with rfl | rfl | rfl <;> exact ⟨rfl, rfl⟩
theorem G0_r : RepR mm0 G0 := by
  refine ⟨⟨rfl, rfl, rfl, rfl, rfl⟩, fun t ht => ?_, ⟨rfl, fun k hk => absurd hk (Nat.not_lt_zero _)⟩, ⟨⟨⟨rfl, rfl, rfl⟩, fun v hv => absurd hv (Nat.not_lt_zero _), fun v hv => absurd hv (Nat.not_lt_zero _), fun v hv => absurd hv (Nat.not_lt_zero _), fun v hv => absurd hv (Nat.not_lt_zero _), fun v hv => absurd hv (Nat.not_lt_zero _)⟩, ⟨fun q hq => ?_, fun v hv => absurd hv (Nat.not_lt_zero _), fun v hv => absurd hv (Nat.not_lt_zero _), rfl, rfl, rfl⟩, rfl, fun h => (by cases h)⟩, ⟨rfl, fun i hi => absurd hi (Nat.not_lt_zero _)⟩, rfl, fun o _ => rfl⟩
  · show m_ar mm0 31 3 t = -1
    have : t = 0 ∨ t = 1 ∨ t = 2 ∨ t = 3 := by omega
    rcases this with rfl | rfl | rfl | rfl <;> rfl
  · have : q = 0 ∨ q = 1 ∨ q = 2 ∨ q = 3 := by omega
    rcases this with rfl | rfl | rfl | rfl <;> exact ⟨rfl, rfl⟩
theorem pure_of (hvil : ∀ (a : Int32) (σ : Mm), Rel σ → ok (fX11_village 0 a σ) (fun q => ok (fX12_village 31 a q.2) (fun q' => q'.1 = q.1 ∧ Rel q'.2))) (hord : ∀ (a : Int32) (σ : Mm), Rel σ → ok (fX11_orders 0 a σ) (fun q => ok (fX12_orders 31 a q.2) (fun q' => q'.1 = q.1 ∧ Rel q'.2))) : PURE := by
  intro Ln xs hL
  obtain ⟨τ, e⟩ := law_l (xs := xs) hvil hord hL (Ln + 1) 0 mm0 (Nat.zero_le _) (by omega) ⟨G0, G0_w, G0_c, G0_r⟩
  exact ⟨Ln + 1, τ, e⟩
