/-! every method passes -/
set_option maxRecDepth 100000 in
theorem chk_0 : (List.range' 0 15).all chkM = true := by decide +kernel
set_option maxRecDepth 100000 in
theorem chk_15 : (List.range' 15 15).all chkM = true := by decide +kernel
set_option maxRecDepth 100000 in
theorem chk_30 : (List.range' 30 15).all chkM = true := by decide +kernel
set_option maxRecDepth 100000 in
theorem chk_45 : (List.range' 45 15).all chkM = true := by decide +kernel
set_option maxRecDepth 100000 in
theorem chk_60 : (List.range' 60 15).all chkM = true := by decide +kernel
set_option maxRecDepth 100000 in
theorem chk_75 : (List.range' 75 15).all chkM = true := by decide +kernel
set_option maxRecDepth 100000 in
theorem chk_90 : (List.range' 90 15).all chkM = true := by decide +kernel
set_option maxRecDepth 100000 in
theorem chk_105 : (List.range' 105 15).all chkM = true := by decide +kernel
set_option maxRecDepth 100000 in
theorem chk_120 : (List.range' 120 15).all chkM = true := by decide +kernel
set_option maxRecDepth 100000 in
theorem chk_135 : (List.range' 135 15).all chkM = true := by decide +kernel
set_option maxRecDepth 100000 in
theorem chk_150 : (List.range' 150 15).all chkM = true := by decide +kernel
set_option maxRecDepth 100000 in
theorem chk_165 : (List.range' 165 15).all chkM = true := by decide +kernel
set_option maxRecDepth 100000 in
theorem chk_180 : (List.range' 180 15).all chkM = true := by decide +kernel
set_option maxRecDepth 100000 in
theorem chk_195 : (List.range' 195 15).all chkM = true := by decide +kernel
set_option maxRecDepth 100000 in
theorem chk_210 : (List.range' 210 15).all chkM = true := by decide +kernel
set_option maxRecDepth 100000 in
theorem chk_225 : (List.range' 225 15).all chkM = true := by decide +kernel
set_option maxRecDepth 100000 in
theorem chk_240 : (List.range' 240 15).all chkM = true := by decide +kernel
set_option maxRecDepth 100000 in
theorem chk_255 : (List.range' 255 15).all chkM = true := by decide +kernel
set_option maxRecDepth 100000 in
theorem chk_270 : (List.range' 270 15).all chkM = true := by decide +kernel
set_option maxRecDepth 100000 in
theorem chk_285 : (List.range' 285 15).all chkM = true := by decide +kernel
set_option maxRecDepth 100000 in
theorem chk_300 : (List.range' 300 15).all chkM = true := by decide +kernel
set_option maxRecDepth 100000 in
theorem chk_315 : (List.range' 315 15).all chkM = true := by decide +kernel
set_option maxRecDepth 100000 in
theorem chk_330 : (List.range' 330 15).all chkM = true := by decide +kernel
set_option maxRecDepth 100000 in
theorem chk_345 : (List.range' 345 5).all chkM = true := by decide +kernel
set_option maxRecDepth 100000 in
theorem cod_0 : (List.range' 0 350).all codeOkB = true := by decide +kernel
theorem range_all {f : Nat → Bool} {a n : Nat} (h : (List.range' a n).all f = true) : ∀ y, a ≤ y → y < a + n → f y = true := by
  intro y h1 h2
  exact List.all_eq_true.mp h y (List.mem_range'_1.mpr ⟨h1, h2⟩)
theorem chk_all (y : Nat) (h : y < 350) : chkM y = true := by
  rcases Nat.lt_or_ge y 15 with q | q
  · exact range_all chk_0 y (by omega) (by omega)
  rcases Nat.lt_or_ge y 30 with q | q
  · exact range_all chk_15 y (by omega) (by omega)
  rcases Nat.lt_or_ge y 45 with q | q
  · exact range_all chk_30 y (by omega) (by omega)
  rcases Nat.lt_or_ge y 60 with q | q
  · exact range_all chk_45 y (by omega) (by omega)
  rcases Nat.lt_or_ge y 75 with q | q
  · exact range_all chk_60 y (by omega) (by omega)
  rcases Nat.lt_or_ge y 90 with q | q
  · exact range_all chk_75 y (by omega) (by omega)
  rcases Nat.lt_or_ge y 105 with q | q
  · exact range_all chk_90 y (by omega) (by omega)
  rcases Nat.lt_or_ge y 120 with q | q
  · exact range_all chk_105 y (by omega) (by omega)
  rcases Nat.lt_or_ge y 135 with q | q
  · exact range_all chk_120 y (by omega) (by omega)
  rcases Nat.lt_or_ge y 150 with q | q
  · exact range_all chk_135 y (by omega) (by omega)
  rcases Nat.lt_or_ge y 165 with q | q
  · exact range_all chk_150 y (by omega) (by omega)
  rcases Nat.lt_or_ge y 180 with q | q
  · exact range_all chk_165 y (by omega) (by omega)
  rcases Nat.lt_or_ge y 195 with q | q
  · exact range_all chk_180 y (by omega) (by omega)
  rcases Nat.lt_or_ge y 210 with q | q
  · exact range_all chk_195 y (by omega) (by omega)
  rcases Nat.lt_or_ge y 225 with q | q
  · exact range_all chk_210 y (by omega) (by omega)
  rcases Nat.lt_or_ge y 240 with q | q
  · exact range_all chk_225 y (by omega) (by omega)
  rcases Nat.lt_or_ge y 255 with q | q
  · exact range_all chk_240 y (by omega) (by omega)
  rcases Nat.lt_or_ge y 270 with q | q
  · exact range_all chk_255 y (by omega) (by omega)
  rcases Nat.lt_or_ge y 285 with q | q
  · exact range_all chk_270 y (by omega) (by omega)
  rcases Nat.lt_or_ge y 300 with q | q
  · exact range_all chk_285 y (by omega) (by omega)
  rcases Nat.lt_or_ge y 315 with q | q
  · exact range_all chk_300 y (by omega) (by omega)
  rcases Nat.lt_or_ge y 330 with q | q
  · exact range_all chk_315 y (by omega) (by omega)
  rcases Nat.lt_or_ge y 345 with q | q
  · exact range_all chk_330 y (by omega) (by omega)
  exact range_all chk_345 y (by omega) (by omega)
theorem cod_all (y : Nat) (h : y < 350) : codeOkB y = true := range_all cod_0 y (by omega) (by omega)
