/-! the code words -/
set_option maxRecDepth 100000 in
theorem cod_0 : (List.range' 0 20).all codeOkB = true := by decide +kernel
set_option maxRecDepth 100000 in
theorem cod_20 : (List.range' 20 20).all codeOkB = true := by decide +kernel
set_option maxRecDepth 100000 in
theorem cod_40 : (List.range' 40 20).all codeOkB = true := by decide +kernel
set_option maxRecDepth 100000 in
theorem cod_60 : (List.range' 60 20).all codeOkB = true := by decide +kernel
set_option maxRecDepth 100000 in
theorem cod_80 : (List.range' 80 20).all codeOkB = true := by decide +kernel
set_option maxRecDepth 100000 in
theorem cod_100 : (List.range' 100 20).all codeOkB = true := by decide +kernel
set_option maxRecDepth 100000 in
theorem cod_120 : (List.range' 120 20).all codeOkB = true := by decide +kernel
set_option maxRecDepth 100000 in
theorem cod_140 : (List.range' 140 20).all codeOkB = true := by decide +kernel
set_option maxRecDepth 100000 in
theorem cod_160 : (List.range' 160 20).all codeOkB = true := by decide +kernel
set_option maxRecDepth 100000 in
theorem cod_180 : (List.range' 180 20).all codeOkB = true := by decide +kernel
set_option maxRecDepth 100000 in
theorem cod_200 : (List.range' 200 20).all codeOkB = true := by decide +kernel
set_option maxRecDepth 100000 in
theorem cod_220 : (List.range' 220 20).all codeOkB = true := by decide +kernel
set_option maxRecDepth 100000 in
theorem cod_240 : (List.range' 240 20).all codeOkB = true := by decide +kernel
set_option maxRecDepth 100000 in
theorem cod_260 : (List.range' 260 20).all codeOkB = true := by decide +kernel
set_option maxRecDepth 100000 in
theorem cod_280 : (List.range' 280 20).all codeOkB = true := by decide +kernel
set_option maxRecDepth 100000 in
theorem cod_300 : (List.range' 300 20).all codeOkB = true := by decide +kernel
set_option maxRecDepth 100000 in
theorem cod_320 : (List.range' 320 20).all codeOkB = true := by decide +kernel
set_option maxRecDepth 100000 in
theorem cod_340 : (List.range' 340 7).all codeOkB = true := by decide +kernel
theorem cod_all (y : Nat) (h : y < 347) : codeOkB y = true := by
  rcases Nat.lt_or_ge y 20 with q | q
  · exact range_all cod_0 y (by omega) (by omega)
  rcases Nat.lt_or_ge y 40 with q | q
  · exact range_all cod_20 y (by omega) (by omega)
  rcases Nat.lt_or_ge y 60 with q | q
  · exact range_all cod_40 y (by omega) (by omega)
  rcases Nat.lt_or_ge y 80 with q | q
  · exact range_all cod_60 y (by omega) (by omega)
  rcases Nat.lt_or_ge y 100 with q | q
  · exact range_all cod_80 y (by omega) (by omega)
  rcases Nat.lt_or_ge y 120 with q | q
  · exact range_all cod_100 y (by omega) (by omega)
  rcases Nat.lt_or_ge y 140 with q | q
  · exact range_all cod_120 y (by omega) (by omega)
  rcases Nat.lt_or_ge y 160 with q | q
  · exact range_all cod_140 y (by omega) (by omega)
  rcases Nat.lt_or_ge y 180 with q | q
  · exact range_all cod_160 y (by omega) (by omega)
  rcases Nat.lt_or_ge y 200 with q | q
  · exact range_all cod_180 y (by omega) (by omega)
  rcases Nat.lt_or_ge y 220 with q | q
  · exact range_all cod_200 y (by omega) (by omega)
  rcases Nat.lt_or_ge y 240 with q | q
  · exact range_all cod_220 y (by omega) (by omega)
  rcases Nat.lt_or_ge y 260 with q | q
  · exact range_all cod_240 y (by omega) (by omega)
  rcases Nat.lt_or_ge y 280 with q | q
  · exact range_all cod_260 y (by omega) (by omega)
  rcases Nat.lt_or_ge y 300 with q | q
  · exact range_all cod_280 y (by omega) (by omega)
  rcases Nat.lt_or_ge y 320 with q | q
  · exact range_all cod_300 y (by omega) (by omega)
  rcases Nat.lt_or_ge y 340 with q | q
  · exact range_all cod_320 y (by omega) (by omega)
  exact range_all cod_340 y (by omega) (by omega)
