/-! every method passes -/
set_option maxRecDepth 100000 in
theorem chk_60 : (List.range' 60 12).all chkM = true := by decide +kernel
set_option maxRecDepth 100000 in
theorem chk_72 : (List.range' 72 12).all chkM = true := by decide +kernel
set_option maxRecDepth 100000 in
theorem chk_84 : (List.range' 84 12).all chkM = true := by decide +kernel
set_option maxRecDepth 100000 in
theorem chk_96 : (List.range' 96 12).all chkM = true := by decide +kernel
set_option maxRecDepth 100000 in
theorem chk_108 : (List.range' 108 12).all chkM = true := by decide +kernel
