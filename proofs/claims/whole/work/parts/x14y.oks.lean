/-! the words stand at their places -/
theorem ok_fls : tx_fls.map (fun f => lw_tbl[f.2.2.2.2]?) = tx_fls.map (fun f => some (Cond.fieldLink (ownN f.1) f.2.1 ((clN f.2.2.1).2.1 f.2.2.2.1).1 ((clN f.2.2.1).2.1 f.2.2.2.1).2.1 ((clN f.2.2.1).2.1 f.2.2.2.1).2.2.1)) := by decide +kernel
theorem ok_mls : tx_mls.map (fun f => lw_tbl[f.2.2.2]?) = tx_mls.map (fun f => some (Cond.methodLink (ownN f.1) f.2.1 (mdN f.2.2.1).1)) := by decide +kernel
theorem ok_cls : tx_cls.map (fun f => lw_tbl[f.2.2.2]?) = tx_cls.map (fun f => some (Cond.constant (ownN f.1) f.2.1 (Int32.ofInt f.2.2.1))) := by decide +kernel
theorem ok_lcs : tx_lcs.map (fun f => lw_tbl[f.2.2.2]?) = tx_lcs.map (fun f => some (Cond.constantLong (ownN f.1) f.2.1 (Int64.ofInt f.2.2.1))) := by decide +kernel
theorem ok_kls : tx_kls.map (fun f => lw_tbl[f.2.2.2]?) = tx_kls.map (fun f => some (Cond.classLink (ownN f.1) f.2.1 (clN f.2.2.1).1)) := by decide +kernel
theorem ok_gls : tx_gls.map (fun f => lw_tbl[f.2.2.2]?) = tx_gls.map (fun f => some (Cond.fieldLink (ownN f.1) f.2.1 (gsN f.2.2.1).1 (gsN f.2.2.1).2.1 (gsN f.2.2.1).2.2)) := by decide +kernel
theorem ok_ols : tx_ols.map (fun f => lw_tbl[f.2.2]?) = tx_ols.map (fun f => some (Cond.methodLink (ownN f.1) f.2.1 objectInit)) := by decide +kernel
theorem ok_als : tx_als.map (fun f => lw_tbl[f.2.2]?) = tx_als.map (fun f => some (Cond.methodLink (ownN f.1) f.2.1 arraycopyName)) := by decide +kernel
theorem ok_xls : tx_xls.map (fun f => lw_tbl[f.2.2.2]?) = tx_xls.map (fun f => some (Cond.methodLink (ownN f.1) f.2.1 (if f.2.2.1 = 2 then Lib.Math.min.name else if f.2.2.1 = 3 then Lib.Math.max.name else Lib.Math.abs.name))) := by decide +kernel
theorem ok_inst : tx_inst.map (fun f => lw_tbl[f.2]?) = tx_inst.map (fun f => some (Cond.instanceMethod (mdN f.1).1)) := by decide +kernel
theorem ok_stat : tx_stat.map (fun f => lw_tbl[f.2]?) = tx_stat.map (fun f => some (Cond.static (mdN f.1).1)) := by decide +kernel
theorem ok_sel : tx_sel.map (fun f => lw_tbl[f.2]?) = tx_sel.map (fun f => some (Cond.selects (mdN f.1).1.cls (mdN f.1).1 (mdN f.1).1)) := by decide +kernel
theorem ok_ini : tx_ini.map (fun f => lw_tbl[f.2]?) = tx_ini.map (fun f => some (Cond.initialized (ownN f.1))) := by decide +kernel
def codeOkB (y : Nat) : Bool := (mdN y).1.cls == "BestMenDuelLaw" || decide (lw_tbl[tx_code.getD y 0]? = some (Cond.code (mdN y).1 (mdN y).2.1 (mdN y).2.2.1 (mdN y).2.2.2))
theorem ok_len : metas.length = 347 ∧ ownY.length = 347 ∧ nM = 347 := by decide +kernel
theorem mem_of_map {α : Type} {l : List α} {f : α → Option Cond} {g : α → Cond} (h : l.map f = l.map (fun a => some (g a))) (hf : ∀ a w, f a = some w → w ∈ lw_tbl) (hg : ∀ a, goodWord (g a) = true) : ∀ a ∈ l, g a ∈ TG := by
  intro a ha
  have := List.map_inj_left.mp h a ha
  exact TG_of (hf a _ this) (hg a)
theorem tbl_get {i : Nat} {w : Cond} (h : lw_tbl[i]? = some w) : w ∈ lw_tbl := List.mem_of_getElem? h
theorem ini_cls : (List.range 347).all (fun y => tx_ini.any (fun f => ownN f.1 == (mdN y).1.cls)) = true := by decide +kernel
theorem cls_ok : tx_cls.all (fun f => decide (-2147483648 ≤ f.2.2.1) && decide (f.2.2.1 < 2147483648)) = true := by decide +kernel
theorem lcs_ok : tx_lcs.all (fun f => decide (-9223372036854775808 ≤ f.2.2.1) && decide (f.2.2.1 < 9223372036854775808)) = true := by decide +kernel
theorem law_only : (List.range 347).all (fun y => !((mdN y).1.cls == "BestMenDuelLaw") || y == 338) = true := by decide +kernel
theorem ini_all : ∀ f ∈ tx_ini, Cond.initialized (ownN f.1) ∈ TG := mem_of_map ok_ini (fun _ _ h => tbl_get h) (fun _ => rfl)
theorem str_v : Cond.fieldLink "java/lang/String" 9 "java/lang/String" "value" "[B" ∈ TG := TG_of (List.mem_of_getElem? (i := 2186) (by decide +kernel)) rfl
theorem str_c : Cond.fieldLink "java/lang/String" 15 "java/lang/String" "coder" "B" ∈ TG := TG_of (List.mem_of_getElem? (i := 2187) (by decide +kernel)) rfl
theorem ml_in : Cond.static Lib.Math.min.name ∈ TG ∧ Cond.static Lib.Math.max.name ∈ TG ∧ Cond.static Lib.Math.abs.name ∈ TG ∧ Cond.initialized "java/lang/Math" ∈ TG ∧ Cond.code Lib.Math.min.name Lib.Math.min.code 2 (some .int) ∈ TG ∧ Cond.code Lib.Math.max.name Lib.Math.max.code 2 (some .int) ∈ TG ∧ Cond.code Lib.Math.abs.name Lib.Math.abs.code 1 (some .int) ∈ TG := by
  refine ⟨TG_of (List.mem_of_getElem? (i := 1138) (by decide +kernel)) rfl, TG_of (List.mem_of_getElem? (i := 1240) (by decide +kernel)) rfl, TG_of (List.mem_of_getElem? (i := 1294) (by decide +kernel)) rfl, TG_of (List.mem_of_getElem? (i := 138) (by decide +kernel)) rfl, TG_of (List.mem_of_getElem? (i := 1139) (by decide +kernel)) rfl, TG_of (List.mem_of_getElem? (i := 1241) (by decide +kernel)) rfl, TG_of (List.mem_of_getElem? (i := 1295) (by decide +kernel)) rfl⟩
