/-! every method passes -/
set_option maxRecDepth 100000 in
theorem chk_300 : (List.range' 300 12).all chkM = true := by decide +kernel
set_option maxRecDepth 100000 in
theorem chk_312 : (List.range' 312 12).all chkM = true := by decide +kernel
set_option maxRecDepth 100000 in
theorem chk_324 : (List.range' 324 12).all chkM = true := by decide +kernel
set_option maxRecDepth 100000 in
theorem chk_336 : (List.range' 336 2).all chkM = true := by decide +kernel
set_option maxRecDepth 100000 in
theorem chk_339 : (List.range' 339 8).all chkM = true := by decide +kernel
