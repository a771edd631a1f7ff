/-! every method passes -/
set_option maxRecDepth 100000 in
theorem chk_240 : (List.range' 240 12).all chkM = true := by decide +kernel
set_option maxRecDepth 100000 in
theorem chk_252 : (List.range' 252 12).all chkM = true := by decide +kernel
set_option maxRecDepth 100000 in
theorem chk_264 : (List.range' 264 12).all chkM = true := by decide +kernel
set_option maxRecDepth 100000 in
theorem chk_276 : (List.range' 276 12).all chkM = true := by decide +kernel
set_option maxRecDepth 100000 in
theorem chk_288 : (List.range' 288 12).all chkM = true := by decide +kernel
