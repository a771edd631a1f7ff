/-! every method passes -/
set_option maxRecDepth 100000 in
theorem chk_180 : (List.range' 180 12).all chkM = true := by decide +kernel
set_option maxRecDepth 100000 in
theorem chk_192 : (List.range' 192 12).all chkM = true := by decide +kernel
set_option maxRecDepth 100000 in
theorem chk_204 : (List.range' 204 12).all chkM = true := by decide +kernel
set_option maxRecDepth 100000 in
theorem chk_216 : (List.range' 216 12).all chkM = true := by decide +kernel
set_option maxRecDepth 100000 in
theorem chk_228 : (List.range' 228 12).all chkM = true := by decide +kernel
