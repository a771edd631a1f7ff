/-! every method passes -/
set_option maxRecDepth 100000 in
theorem chk_0 : (List.range' 0 12).all chkM = true := by decide +kernel
set_option maxRecDepth 100000 in
theorem chk_12 : (List.range' 12 12).all chkM = true := by decide +kernel
set_option maxRecDepth 100000 in
theorem chk_24 : (List.range' 24 12).all chkM = true := by decide +kernel
set_option maxRecDepth 100000 in
theorem chk_36 : (List.range' 36 12).all chkM = true := by decide +kernel
set_option maxRecDepth 100000 in
theorem chk_48 : (List.range' 48 12).all chkM = true := by decide +kernel
