/-! the words stand at their places: one walk over the table for each list (the lists are in the table's order) -/
def xpk {α : Type} (e : Cond → α → Bool) (l : List Cond) (n : Nat) (ps : List (Nat × α)) : Bool := match ps with
  | [] => true
  | q :: ps => match l.drop (q.1 - n) with
    | [] => false
    | c :: cs => e c q.2 && xpk e cs (q.1 + 1) ps
theorem xpk_mem {α : Type} {e : Cond → α → Bool} {g : α → Cond} (he : ∀ c a, e c a = true → c = g a) : ∀ (ps : List (Nat × α)) (l : List Cond) (n : Nat), xpk e l n ps = true → ∀ p ∈ ps, g p.2 ∈ l
  | [], _, _, _, p, hp => by cases hp
  | q :: ps, l, n, h, p, hp => by
    unfold xpk at h
    split at h
    · cases h
    · next c cs hd =>
      simp only [Bool.and_eq_true] at h
      have hs : ∀ x ∈ c :: cs, x ∈ l := fun x hx => List.mem_of_mem_drop (i := q.1 - n) (by rw [hd]; exact hx)
      rcases List.mem_cons.mp hp with rfl | hp
      · rw [← he _ _ h.1]
        exact hs _ List.mem_cons_self
      · exact hs _ (List.mem_cons_of_mem _ (xpk_mem he ps cs _ h.2 p hp))
def wEq (c w : Cond) : Bool := decide (c = w)
theorem mem_of_map {α : Type} {l : List α} {i : α → Nat} {g : α → Cond} (h : xpk wEq lw_tbl 0 (l.map (fun a => (i a, g a))) = true) (hg : ∀ a, goodWord (g a) = true) : ∀ a ∈ l, g a ∈ TG := fun a ha =>
  TG_of (xpk_mem (g := fun w => w) (fun c w h => of_decide_eq_true h) _ _ _ h (i a, g a) (List.mem_map.mpr ⟨a, ha, rfl⟩)) (hg a)
theorem ok_fls : xpk wEq lw_tbl 0 (tx_fls.map (fun f => (f.2.2.2.2, Cond.fieldLink (ownN f.1) f.2.1 ((clN f.2.2.1).2.1 f.2.2.2.1).1 ((clN f.2.2.1).2.1 f.2.2.2.1).2.1 ((clN f.2.2.1).2.1 f.2.2.2.1).2.2.1))) = true := by decide +kernel
theorem ok_mls : xpk wEq lw_tbl 0 (tx_mls.map (fun f => (f.2.2.2, Cond.methodLink (ownN f.1) f.2.1 (mdN f.2.2.1).1))) = true := by decide +kernel
theorem ok_cls : xpk wEq lw_tbl 0 (tx_cls.map (fun f => (f.2.2.2, Cond.constant (ownN f.1) f.2.1 (Int32.ofInt f.2.2.1)))) = true := by decide +kernel
theorem ok_lcs : xpk wEq lw_tbl 0 (tx_lcs.map (fun f => (f.2.2.2, Cond.constantLong (ownN f.1) f.2.1 (Int64.ofInt f.2.2.1)))) = true := by decide +kernel
theorem ok_kls : xpk wEq lw_tbl 0 (tx_kls.map (fun f => (f.2.2.2, Cond.classLink (ownN f.1) f.2.1 (clN f.2.2.1).1))) = true := by decide +kernel
theorem ok_gls : xpk wEq lw_tbl 0 (tx_gls.map (fun f => (f.2.2.2, Cond.fieldLink (ownN f.1) f.2.1 (gsN f.2.2.1).1 (gsN f.2.2.1).2.1 (gsN f.2.2.1).2.2))) = true := by decide +kernel
theorem ok_ols : xpk wEq lw_tbl 0 (tx_ols.map (fun f => (f.2.2, Cond.methodLink (ownN f.1) f.2.1 objectInit))) = true := by decide +kernel
theorem ok_als : xpk wEq lw_tbl 0 (tx_als.map (fun f => (f.2.2, Cond.methodLink (ownN f.1) f.2.1 arraycopyName))) = true := by decide +kernel
theorem ok_xls : xpk wEq lw_tbl 0 (tx_xls.map (fun f => (f.2.2.2, Cond.methodLink (ownN f.1) f.2.1 (if f.2.2.1 = 2 then Lib.Math.min.name else if f.2.2.1 = 3 then Lib.Math.max.name else Lib.Math.abs.name)))) = true := by decide +kernel
theorem ok_inst : xpk wEq lw_tbl 0 (tx_inst.map (fun f => (f.2, Cond.instanceMethod (mdN f.1).1))) = true := by decide +kernel
theorem ok_stat : xpk wEq lw_tbl 0 (tx_stat.map (fun f => (f.2, Cond.static (mdN f.1).1))) = true := by decide +kernel
theorem ok_sel : xpk wEq lw_tbl 0 (tx_sel.map (fun f => (f.2, Cond.selects (mdN f.1).1.cls (mdN f.1).1 (mdN f.1).1))) = true := by decide +kernel
theorem ok_ini : xpk wEq lw_tbl 0 (tx_ini.map (fun f => (f.2, Cond.initialized (ownN f.1)))) = true := by decide +kernel
theorem ok_len : metas.length = 347 ∧ ownY.length = 347 ∧ nM = 347 := by decide +kernel
theorem tbl_get {i : Nat} {w : Cond} (h : lw_tbl[i]? = some w) : w ∈ lw_tbl := List.mem_of_getElem? h
theorem ini_cls : (List.range 347).all (fun y => tx_ini.any (fun f => ownN f.1 == (mdN y).1.cls)) = true := by decide +kernel
theorem cls_ok : tx_cls.all (fun f => decide (-2147483648 ≤ f.2.2.1) && decide (f.2.2.1 < 2147483648)) = true := by decide +kernel
theorem lcs_ok : tx_lcs.all (fun f => decide (-9223372036854775808 ≤ f.2.2.1) && decide (f.2.2.1 < 9223372036854775808)) = true := by decide +kernel
theorem law_only : (List.range 347).all (fun y => !((mdN y).1.cls == "BestMenDuelLaw") || y == 338) = true := by decide +kernel
theorem ini_all : ∀ f ∈ tx_ini, Cond.initialized (ownN f.1) ∈ TG := mem_of_map ok_ini (fun _ => rfl)
theorem str_v : Cond.fieldLink "java/lang/String" 9 "java/lang/String" "value" "[B" ∈ TG := TG_of (List.mem_of_getElem? (i := 2186) (by decide +kernel)) rfl
theorem str_c : Cond.fieldLink "java/lang/String" 15 "java/lang/String" "coder" "B" ∈ TG := TG_of (List.mem_of_getElem? (i := 2187) (by decide +kernel)) rfl
theorem ml_in : Cond.static Lib.Math.min.name ∈ TG ∧ Cond.static Lib.Math.max.name ∈ TG ∧ Cond.static Lib.Math.abs.name ∈ TG ∧ Cond.initialized "java/lang/Math" ∈ TG ∧ Cond.code Lib.Math.min.name Lib.Math.min.code 2 (some .int) ∈ TG ∧ Cond.code Lib.Math.max.name Lib.Math.max.code 2 (some .int) ∈ TG ∧ Cond.code Lib.Math.abs.name Lib.Math.abs.code 1 (some .int) ∈ TG := by
  refine ⟨TG_of (List.mem_of_getElem? (i := 1138) (by decide +kernel)) rfl, TG_of (List.mem_of_getElem? (i := 1240) (by decide +kernel)) rfl, TG_of (List.mem_of_getElem? (i := 1294) (by decide +kernel)) rfl, TG_of (List.mem_of_getElem? (i := 138) (by decide +kernel)) rfl, TG_of (List.mem_of_getElem? (i := 1139) (by decide +kernel)) rfl, TG_of (List.mem_of_getElem? (i := 1241) (by decide +kernel)) rfl, TG_of (List.mem_of_getElem? (i := 1295) (by decide +kernel)) rfl⟩
