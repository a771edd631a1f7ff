/-! every method passes -/
set_option maxRecDepth 100000 in
theorem chk_120 : (List.range' 120 12).all chkM = true := by decide +kernel
set_option maxRecDepth 100000 in
theorem chk_132 : (List.range' 132 12).all chkM = true := by decide +kernel
set_option maxRecDepth 100000 in
theorem chk_144 : (List.range' 144 12).all chkM = true := by decide +kernel
set_option maxRecDepth 100000 in
theorem chk_156 : (List.range' 156 12).all chkM = true := by decide +kernel
set_option maxRecDepth 100000 in
theorem chk_168 : (List.range' 168 12).all chkM = true := by decide +kernel
