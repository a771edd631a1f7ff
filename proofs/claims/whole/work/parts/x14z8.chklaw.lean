/-! the law, on -/
set_option maxRecDepth 100000 in
theorem lw_c8 : eAll 338 (((tabOf 338).drop 640).take 80) = true := by decide +kernel
set_option maxRecDepth 100000 in
theorem lw_c9 : eAll 338 (((tabOf 338).drop 720).take 80) = true := by decide +kernel
set_option maxRecDepth 100000 in
theorem lw_c10 : eAll 338 (((tabOf 338).drop 800).take 80) = true := by decide +kernel
set_option maxRecDepth 100000 in
theorem lw_c11 : eAll 338 (((tabOf 338).drop 880).take 80) = true := by decide +kernel
set_option maxRecDepth 100000 in
theorem lw_c12 : eAll 338 (((tabOf 338).drop 960).take 80) = true := by decide +kernel
set_option maxRecDepth 100000 in
theorem lw_c13 : eAll 338 (((tabOf 338).drop 1040).take 80) = true := by decide +kernel
set_option maxRecDepth 100000 in
theorem lw_c14 : eAll 338 (((tabOf 338).drop 1120).take 80) = true := by decide +kernel
set_option maxRecDepth 100000 in
theorem lw_c15 : eAll 338 (((tabOf 338).drop 1200).take 80) = true := by decide +kernel
set_option maxRecDepth 100000 in
theorem lw_c16 : eAll 338 (((tabOf 338).drop 1280).take 80) = true := by decide +kernel
theorem lw_d16 : eAll 338 ((tabOf 338).drop 1280) = true := all_split _ _ 80 lw_c16 (by rw [List.drop_drop]; decide +kernel)
theorem lw_d15 : eAll 338 ((tabOf 338).drop 1200) = true := all_split _ _ 80 lw_c15 (by rw [List.drop_drop]; exact lw_d16)
theorem lw_d14 : eAll 338 ((tabOf 338).drop 1120) = true := all_split _ _ 80 lw_c14 (by rw [List.drop_drop]; exact lw_d15)
theorem lw_d13 : eAll 338 ((tabOf 338).drop 1040) = true := all_split _ _ 80 lw_c13 (by rw [List.drop_drop]; exact lw_d14)
theorem lw_d12 : eAll 338 ((tabOf 338).drop 960) = true := all_split _ _ 80 lw_c12 (by rw [List.drop_drop]; exact lw_d13)
theorem lw_d11 : eAll 338 ((tabOf 338).drop 880) = true := all_split _ _ 80 lw_c11 (by rw [List.drop_drop]; exact lw_d12)
theorem lw_d10 : eAll 338 ((tabOf 338).drop 800) = true := all_split _ _ 80 lw_c10 (by rw [List.drop_drop]; exact lw_d11)
theorem lw_d9 : eAll 338 ((tabOf 338).drop 720) = true := all_split _ _ 80 lw_c9 (by rw [List.drop_drop]; exact lw_d10)
theorem lw_d8 : eAll 338 ((tabOf 338).drop 640) = true := all_split _ _ 80 lw_c8 (by rw [List.drop_drop]; exact lw_d9)
theorem lw_d7 : eAll 338 ((tabOf 338).drop 560) = true := all_split _ _ 80 lw_c7 (by rw [List.drop_drop]; exact lw_d8)
theorem lw_d6 : eAll 338 ((tabOf 338).drop 480) = true := all_split _ _ 80 lw_c6 (by rw [List.drop_drop]; exact lw_d7)
theorem lw_d5 : eAll 338 ((tabOf 338).drop 400) = true := all_split _ _ 80 lw_c5 (by rw [List.drop_drop]; exact lw_d6)
theorem lw_d4 : eAll 338 ((tabOf 338).drop 320) = true := all_split _ _ 80 lw_c4 (by rw [List.drop_drop]; exact lw_d5)
theorem lw_d3 : eAll 338 ((tabOf 338).drop 240) = true := all_split _ _ 80 lw_c3 (by rw [List.drop_drop]; exact lw_d4)
theorem lw_d2 : eAll 338 ((tabOf 338).drop 160) = true := all_split _ _ 80 lw_c2 (by rw [List.drop_drop]; exact lw_d3)
theorem lw_d1 : eAll 338 ((tabOf 338).drop 80) = true := all_split _ _ 80 lw_c1 (by rw [List.drop_drop]; exact lw_d2)
theorem lw_d0 : eAll 338 ((tabOf 338).drop 0) = true := all_split _ _ 80 lw_c0 (by rw [List.drop_drop]; exact lw_d1)
theorem chk_338 : chkM 338 = true := by
  have h := lw_d0
  rw [List.drop_zero] at h
  unfold eAll at h
  unfold chkM
  rw [h]
  decide +kernel
theorem range_all {f : Nat → Bool} {a n : Nat} (h : (List.range' a n).all f = true) : ∀ y, a ≤ y → y < a + n → f y = true := by
  intro y h1 h2
  exact List.all_eq_true.mp h y (List.mem_range'_1.mpr ⟨h1, h2⟩)
theorem chk_all (y : Nat) (h : y < 347) : chkM y = true := by
  rcases Nat.lt_or_ge y 12 with q | q
  · exact range_all chk_0 y (by omega) (by omega)
  rcases Nat.lt_or_ge y 24 with q | q
  · exact range_all chk_12 y (by omega) (by omega)
  rcases Nat.lt_or_ge y 36 with q | q
  · exact range_all chk_24 y (by omega) (by omega)
  rcases Nat.lt_or_ge y 48 with q | q
  · exact range_all chk_36 y (by omega) (by omega)
  rcases Nat.lt_or_ge y 60 with q | q
  · exact range_all chk_48 y (by omega) (by omega)
  rcases Nat.lt_or_ge y 72 with q | q
  · exact range_all chk_60 y (by omega) (by omega)
  rcases Nat.lt_or_ge y 84 with q | q
  · exact range_all chk_72 y (by omega) (by omega)
  rcases Nat.lt_or_ge y 96 with q | q
  · exact range_all chk_84 y (by omega) (by omega)
  rcases Nat.lt_or_ge y 108 with q | q
  · exact range_all chk_96 y (by omega) (by omega)
  rcases Nat.lt_or_ge y 120 with q | q
  · exact range_all chk_108 y (by omega) (by omega)
  rcases Nat.lt_or_ge y 132 with q | q
  · exact range_all chk_120 y (by omega) (by omega)
  rcases Nat.lt_or_ge y 144 with q | q
  · exact range_all chk_132 y (by omega) (by omega)
  rcases Nat.lt_or_ge y 156 with q | q
  · exact range_all chk_144 y (by omega) (by omega)
  rcases Nat.lt_or_ge y 168 with q | q
  · exact range_all chk_156 y (by omega) (by omega)
  rcases Nat.lt_or_ge y 180 with q | q
  · exact range_all chk_168 y (by omega) (by omega)
  rcases Nat.lt_or_ge y 192 with q | q
  · exact range_all chk_180 y (by omega) (by omega)
  rcases Nat.lt_or_ge y 204 with q | q
  · exact range_all chk_192 y (by omega) (by omega)
  rcases Nat.lt_or_ge y 216 with q | q
  · exact range_all chk_204 y (by omega) (by omega)
  rcases Nat.lt_or_ge y 228 with q | q
  · exact range_all chk_216 y (by omega) (by omega)
  rcases Nat.lt_or_ge y 240 with q | q
  · exact range_all chk_228 y (by omega) (by omega)
  rcases Nat.lt_or_ge y 252 with q | q
  · exact range_all chk_240 y (by omega) (by omega)
  rcases Nat.lt_or_ge y 264 with q | q
  · exact range_all chk_252 y (by omega) (by omega)
  rcases Nat.lt_or_ge y 276 with q | q
  · exact range_all chk_264 y (by omega) (by omega)
  rcases Nat.lt_or_ge y 288 with q | q
  · exact range_all chk_276 y (by omega) (by omega)
  rcases Nat.lt_or_ge y 300 with q | q
  · exact range_all chk_288 y (by omega) (by omega)
  rcases Nat.lt_or_ge y 312 with q | q
  · exact range_all chk_300 y (by omega) (by omega)
  rcases Nat.lt_or_ge y 324 with q | q
  · exact range_all chk_312 y (by omega) (by omega)
  rcases Nat.lt_or_ge y 336 with q | q
  · exact range_all chk_324 y (by omega) (by omega)
  rcases Nat.lt_or_ge y 338 with q | q
  · exact range_all chk_336 y (by omega) (by omega)
  rcases Nat.lt_or_ge y 339 with q | q
  · have e : y = 338 := by omega
    rw [e]
    exact chk_338
  exact range_all chk_339 y (by omega) (by omega)
