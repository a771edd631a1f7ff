/-! the law's instructions, by pieces -/
noncomputable def eAll (y : Nat) (l : List TE) : Bool := l.all (fun e => decide (decode (mdN y).2.1 e.1 = .ok e.2.1) && lnB e.2.1.1 e.2.1.2 && eB (ownY.getD y 0) ((mdN y).1.name == "<init>") (mdN y).2.2.1 e.1 e.2.1.1 e.2.1.2 e.2.2)
theorem all_split {α : Type} (f : α → Bool) (l : List α) (n : Nat) (h1 : (l.take n).all f = true) (h2 : (l.drop n).all f = true) : l.all f = true := by
  rw [← List.take_append_drop n l, List.all_append, h1, h2]
  rfl
set_option maxRecDepth 100000 in
theorem lw_c0 : eAll 338 (((tabOf 338).drop 0).take 80) = true := by decide +kernel
set_option maxRecDepth 100000 in
theorem lw_c1 : eAll 338 (((tabOf 338).drop 80).take 80) = true := by decide +kernel
set_option maxRecDepth 100000 in
theorem lw_c2 : eAll 338 (((tabOf 338).drop 160).take 80) = true := by decide +kernel
set_option maxRecDepth 100000 in
theorem lw_c3 : eAll 338 (((tabOf 338).drop 240).take 80) = true := by decide +kernel
set_option maxRecDepth 100000 in
theorem lw_c4 : eAll 338 (((tabOf 338).drop 320).take 80) = true := by decide +kernel
set_option maxRecDepth 100000 in
theorem lw_c5 : eAll 338 (((tabOf 338).drop 400).take 80) = true := by decide +kernel
set_option maxRecDepth 100000 in
theorem lw_c6 : eAll 338 (((tabOf 338).drop 480).take 80) = true := by decide +kernel
set_option maxRecDepth 100000 in
theorem lw_c7 : eAll 338 (((tabOf 338).drop 560).take 80) = true := by decide +kernel
