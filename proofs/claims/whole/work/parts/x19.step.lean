/-! ONE STEP: what the abstract machine does, the machine does (written by wip/tools/genstep.py) -/
theorem pI_some {β : Type} {st : List AV} {f : Int → List AV → Option β} {x : β} (h : pI st none f = some x) : ∃ a r, st = .inl a :: r ∧ f a r = some x := by
  unfold pI at h; split at h
  · exact ⟨_, _, rfl, h⟩
  · cases h
theorem pII_some {β : Type} {st : List AV} {f : Int → Int → List AV → Option β} {x : β} (h : pII st none f = some x) : ∃ a b r, st = .inl b :: .inl a :: r ∧ f a b r = some x := by
  unfold pII at h; split at h
  · exact ⟨_, _, _, rfl, h⟩
  · cases h
theorem pJ_some {β : Type} {st : List AV} {f : Int → List AV → Option β} {x : β} (h : pJ st none f = some x) : ∃ a r, st = .inr (.inl a) :: r ∧ f a r = some x := by
  unfold pJ at h; split at h
  · exact ⟨_, _, rfl, h⟩
  · cases h
theorem pJJ_some {β : Type} {st : List AV} {f : Int → Int → List AV → Option β} {x : β} (h : pJJ st none f = some x) : ∃ a b r, st = .inr (.inl b) :: .inr (.inl a) :: r ∧ f a b r = some x := by
  unfold pJJ at h; split at h
  · exact ⟨_, _, _, rfl, h⟩
  · cases h
theorem pJI_some {β : Type} {st : List AV} {f : Int → Int → List AV → Option β} {x : β} (h : pJI st none f = some x) : ∃ a b r, st = .inl b :: .inr (.inl a) :: r ∧ f a b r = some x := by
  unfold pJI at h; split at h
  · exact ⟨_, _, _, rfl, h⟩
  · cases h
theorem pA_some {β : Type} {st : List AV} {f : Int → List AV → Option β} {x : β} (h : pA st none f = some x) : ∃ a r, st = .inr (.inr a) :: r ∧ f a r = some x := by
  unfold pA at h; split at h
  · exact ⟨_, _, rfl, h⟩
  · cases h
theorem pAI_some {β : Type} {st : List AV} {f : Int → Int → List AV → Option β} {x : β} (h : pAI st none f = some x) : ∃ a b r, st = .inl b :: .inr (.inr a) :: r ∧ f a b r = some x := by
  unfold pAI at h; split at h
  · exact ⟨_, _, _, rfl, h⟩
  · cases h
theorem pAII_some {β : Type} {st : List AV} {f : Int → Int → Int → List AV → Option β} {x : β} (h : pAII st none f = some x) : ∃ a b c r, st = .inl c :: .inl b :: .inr (.inr a) :: r ∧ f a b c r = some x := by
  unfold pAII at h; split at h
  · exact ⟨_, _, _, _, rfl, h⟩
  · cases h
theorem pAIJ_some {β : Type} {st : List AV} {f : Int → Int → Int → List AV → Option β} {x : β} (h : pAIJ st none f = some x) : ∃ a b c r, st = .inr (.inl c) :: .inl b :: .inr (.inr a) :: r ∧ f a b c r = some x := by
  unfold pAIJ at h; split at h
  · exact ⟨_, _, _, _, rfl, h⟩
  · cases h
theorem pAIA_some {β : Type} {st : List AV} {f : Int → Int → Int → List AV → Option β} {x : β} (h : pAIA st none f = some x) : ∃ a b c r, st = .inr (.inr c) :: .inl b :: .inr (.inr a) :: r ∧ f a b c r = some x := by
  unfold pAIA at h; split at h
  · exact ⟨_, _, _, _, rfl, h⟩
  · cases h
theorem pVA_some {β : Type} {st : List AV} {f : AV → Int → List AV → Option β} {x : β} (h : pVA st none f = some x) : ∃ v a r, st = v :: .inr (.inr a) :: r ∧ f v a r = some x := by
  unfold pVA at h; split at h
  · exact ⟨_, _, _, rfl, h⟩
  · cases h
theorem pV_some {β : Type} {st : List AV} {f : AV → List AV → Option β} {x : β} (h : pV st none f = some x) : ∃ v r, st = v :: r ∧ f v r = some x := by
  unfold pV at h; split at h
  · exact ⟨_, _, rfl, h⟩
  · cases h
theorem pVV_some {β : Type} {st : List AV} {f : AV → AV → List AV → Option β} {x : β} (h : pVV st none f = some x) : ∃ v w r, st = v :: w :: r ∧ f v w r = some x := by
  unfold pVV at h; split at h
  · exact ⟨_, _, _, rfl, h⟩
  · cases h
theorem pCP_some {β : Type} {st : List AV} {f : Int → Int → Int → Int → Int → List AV → Option β} {x : β} (h : pCP st none f = some x) : ∃ a p q d n r, st = .inl n :: .inl d :: .inr (.inr q) :: .inl p :: .inr (.inr a) :: r ∧ f a p q d n r = some x := by
  unfold pCP at h; split at h
  · exact ⟨_, _, _, _, _, _, rfl, h⟩
  · cases h
theorem xoK_some {β γ : Type} {o : Option γ} {f : γ → Option β} {x : β} (h : oK o none f = some x) : ∃ v, o = some v ∧ f v = some x := by
  unfold oK at h; split at h
  · exact ⟨_, rfl, h⟩
  · cases h
theorem ldI_some {L : Lv} {i : Nat} {x : Int} (h : ldI L i = some x) : L[i]? = some (some (.inl x)) := by
  unfold ldI at h; split at h
  · next z => cases h; exact z
  · cases h
theorem ldJ_some {L : Lv} {i : Nat} {x : Int} (h : ldJ L i = some x) : L[i]? = some (some (.inr (.inl x))) := by
  unfold ldJ at h; split at h
  · next z => cases h; exact z
  · cases h
theorem ldA_some {L : Lv} {i : Nat} {x : Int} (h : ldA L i = some x) : L[i]? = some (some (.inr (.inr x))) := by
  unfold ldA at h; split at h
  · next z => cases h; exact z
  · cases h
theorem tsw_some {β : Type} (a : Int) (F : Int → β) (d : Int) : ∀ (l : List Int) (lo : Int), ∃ o, tsw a F (F d) lo l = F o ∧ (((a < lo ∨ lo + (l.length : Int) ≤ a) ∧ o = d) ∨ (lo ≤ a ∧ a < lo + (l.length : Int) ∧ l[(a - lo).toNat]? = some o))
  | [], lo => ⟨d, rfl, Or.inl ⟨by simp; omega, rfl⟩⟩
  | x :: l, lo => by
    unfold tsw
    split
    · next e =>
      subst e
      exact ⟨x, rfl, Or.inr ⟨by omega, by simp; omega, by simp⟩⟩
    · next e =>
      obtain ⟨o, h1, h2⟩ := tsw_some a F d l (lo + 1)
      refine ⟨o, h1, ?_⟩
      rcases h2 with ⟨h2, h3⟩ | ⟨h2, h3, h4⟩
      · exact Or.inl ⟨by simp; omega, h3⟩
      · refine Or.inr ⟨by omega, by simp; omega, ?_⟩
        have e2 : (a - lo).toNat = (a - (lo + 1)).toNat + 1 := by omega
        rw [e2, List.getElem?_cons_succ]
        exact h4
theorem lsw_some {β : Type} (a : Int) (F : Int → β) (d : Int) : ∀ (l : List (Int × Int)), lsw a F (F d) l = F (Op.lookupswitch.offset l d a) ∧ (Op.lookupswitch.offset l d a = d ∨ ∃ q ∈ l, q.2 = Op.lookupswitch.offset l d a)
  | [] => ⟨rfl, Or.inl rfl⟩
  | q :: l => by
    obtain ⟨k, o⟩ := q
    unfold lsw
    rw [Op.lookupswitch.offset_cons]
    by_cases e : a = k
    · rw [if_pos e, if_pos e.symm]
      exact ⟨rfl, Or.inr ⟨(k, o), List.mem_cons_self, rfl⟩⟩
    · rw [if_neg e, if_neg (fun z => e z.symm)]
      obtain ⟨h1, h2⟩ := lsw_some a F d l
      refine ⟨h1, ?_⟩
      rcases h2 with h2 | ⟨q, h2, h3⟩
      · exact Or.inl h2
      · exact Or.inr ⟨q, List.mem_cons_of_mem _ h2, h3⟩
def LK : Prop := (∀ f ∈ tx_fls, Cond.fieldLink (ownN f.1) f.2.1 ((clN f.2.2.1).2.1 f.2.2.2.1).1 ((clN f.2.2.1).2.1 f.2.2.2.1).2.1 ((clN f.2.2.1).2.1 f.2.2.2.1).2.2.1 ∈ TG) ∧ (∀ f ∈ tx_mls, Cond.methodLink (ownN f.1) f.2.1 (mdN f.2.2.1).1 ∈ TG) ∧ (∀ f ∈ tx_cls, Cond.constant (ownN f.1) f.2.1 (Int32.ofInt f.2.2.1) ∈ TG ∧ xkI f.2.2.1) ∧ (∀ f ∈ tx_lcs, Cond.constantLong (ownN f.1) f.2.1 (Int64.ofInt f.2.2.1) ∈ TG ∧ okJ f.2.2.1) ∧
  (∀ f ∈ tx_kls, Cond.classLink (ownN f.1) f.2.1 (clN f.2.2.1).1 ∈ TG) ∧ (∀ f ∈ tx_gls, Cond.fieldLink (ownN f.1) f.2.1 (gsN f.2.2.1).1 (gsN f.2.2.1).2.1 (gsN f.2.2.1).2.2 ∈ TG) ∧ (∀ f ∈ tx_ols, Cond.methodLink (ownN f.1) f.2.1 objectInit ∈ TG) ∧ (∀ f ∈ tx_als, Cond.methodLink (ownN f.1) f.2.1 arraycopyName ∈ TG) ∧
  (∀ f ∈ tx_inst, Cond.instanceMethod (mdN f.1).1 ∈ TG) ∧ (∀ f ∈ tx_stat, Cond.static (mdN f.1).1 ∈ TG) ∧ (∀ f ∈ tx_sel, Cond.selects (mdN f.1).1.cls (mdN f.1).1 (mdN f.1).1 ∈ TG) ∧ (∀ y, y < 347 → Cond.initialized (mdN y).1.cls ∈ TG) ∧ (∀ y, y < 347 → y ≠ 338 → Cond.code (mdN y).1 (mdN y).2.1 (mdN y).2.2.1 (mdN y).2.2.2 ∈ TG) ∧
  Cond.fieldLink "java/lang/String" 9 "java/lang/String" "value" "[B" ∈ TG ∧ Cond.fieldLink "java/lang/String" 15 "java/lang/String" "coder" "B" ∈ TG ∧ ∀ f ∈ tx_xls, Cond.methodLink (ownN f.1) f.2.1 (if f.2.2.1 = 2 then Lib.Math.min.name else if f.2.2.1 = 3 then Lib.Math.max.name else Lib.Math.abs.name) ∈ TG
theorem own_cl {ci : Nat} (h : ci < 12) : ownN ci = (clN ci).1 := cl_cases (P := fun ci => ownN ci = (clN ci).1) h rfl rfl rfl rfl rfl rfl rfl rfl rfl rfl rfl rfl
theorem q_iconst {G : GG} {p : Program} {l : Launch} {e : Env} {R : Room} {s : State} {m : MethodId} {args : Array Value} {below : List Frame} {meth : Method} {c : Code} {Q : State → Prop} {y pc cells slots cells2 slots2 : Nat} {L L2 : Lv} {st st2 : List AV} {S S2 : Sh} {h h2 : Mem} {rk len pc2 : Nat} {ax : Nat × Nat × Nat × Int} {n : Int} (F : XFC G p s m args meth c y R) (K : LK) (hz : s.heap.size + cells = gz G + (S.length - 1)) (hc2 : cells2 = cells + (S2.length - S.length)) (hs2 : slots2 = slots + (slt S2 - slt S)) (hr1 : cells2 ≤ R.cells) (hr2 : slots2 ≤ R.slots) (hcls : (mdN y).1.cls = ownN (ownY.getD y 0))
    (hE : eB (ownY.getD y 0) ((mdN y).1.name == "<init>") (mdN y).2.2.1 pc (.iconst n) len ax = true) (hd : decode (mdN y).2.1 pc = .ok (.iconst n, len)) (hln : lnB (.iconst n) len = true)
    (hs : stepQ (gX G) rk (.iconst n) len ax pc L st S h = some (.inl (pc2, L2, st2, S2, h2))) (k : WC G p l e R s m args below meth c Q y pc2 L2 st2 S2 h2 cells2 slots2) : WC G p l e R s m args below meth c Q y pc L st S h cells slots := by
  have hln : len = lnI (.iconst n) := by simpa [lnB] using hln
  subst hln
  unfold stepQ stepK at hs
  dsimp only at hs
  cases hs
  simp only [Nat.sub_self, Nat.add_zero] at hc2 hs2
  subst hc2; subst hs2
  exact s_iconst (by simp only [eB, Bool.and_eq_true, decide_eq_true_eq] at hE; unfold xkI; omega) hd F k
theorem q_bipush {G : GG} {p : Program} {l : Launch} {e : Env} {R : Room} {s : State} {m : MethodId} {args : Array Value} {below : List Frame} {meth : Method} {c : Code} {Q : State → Prop} {y pc cells slots cells2 slots2 : Nat} {L L2 : Lv} {st st2 : List AV} {S S2 : Sh} {h h2 : Mem} {rk len pc2 : Nat} {ax : Nat × Nat × Nat × Int} {n : Int} (F : XFC G p s m args meth c y R) (K : LK) (hz : s.heap.size + cells = gz G + (S.length - 1)) (hc2 : cells2 = cells + (S2.length - S.length)) (hs2 : slots2 = slots + (slt S2 - slt S)) (hr1 : cells2 ≤ R.cells) (hr2 : slots2 ≤ R.slots) (hcls : (mdN y).1.cls = ownN (ownY.getD y 0))
    (hE : eB (ownY.getD y 0) ((mdN y).1.name == "<init>") (mdN y).2.2.1 pc (.bipush n) len ax = true) (hd : decode (mdN y).2.1 pc = .ok (.bipush n, len)) (hln : lnB (.bipush n) len = true)
    (hs : stepQ (gX G) rk (.bipush n) len ax pc L st S h = some (.inl (pc2, L2, st2, S2, h2))) (k : WC G p l e R s m args below meth c Q y pc2 L2 st2 S2 h2 cells2 slots2) : WC G p l e R s m args below meth c Q y pc L st S h cells slots := by
  have hln : len = lnI (.bipush n) := by simpa [lnB] using hln
  subst hln
  unfold stepQ stepK at hs
  dsimp only at hs
  cases hs
  simp only [Nat.sub_self, Nat.add_zero] at hc2 hs2
  subst hc2; subst hs2
  exact s_bipush (by simp only [eB, Bool.and_eq_true, decide_eq_true_eq] at hE; exact hE) hd F k
theorem q_sipush {G : GG} {p : Program} {l : Launch} {e : Env} {R : Room} {s : State} {m : MethodId} {args : Array Value} {below : List Frame} {meth : Method} {c : Code} {Q : State → Prop} {y pc cells slots cells2 slots2 : Nat} {L L2 : Lv} {st st2 : List AV} {S S2 : Sh} {h h2 : Mem} {rk len pc2 : Nat} {ax : Nat × Nat × Nat × Int} {n : Int} (F : XFC G p s m args meth c y R) (K : LK) (hz : s.heap.size + cells = gz G + (S.length - 1)) (hc2 : cells2 = cells + (S2.length - S.length)) (hs2 : slots2 = slots + (slt S2 - slt S)) (hr1 : cells2 ≤ R.cells) (hr2 : slots2 ≤ R.slots) (hcls : (mdN y).1.cls = ownN (ownY.getD y 0))
    (hE : eB (ownY.getD y 0) ((mdN y).1.name == "<init>") (mdN y).2.2.1 pc (.sipush n) len ax = true) (hd : decode (mdN y).2.1 pc = .ok (.sipush n, len)) (hln : lnB (.sipush n) len = true)
    (hs : stepQ (gX G) rk (.sipush n) len ax pc L st S h = some (.inl (pc2, L2, st2, S2, h2))) (k : WC G p l e R s m args below meth c Q y pc2 L2 st2 S2 h2 cells2 slots2) : WC G p l e R s m args below meth c Q y pc L st S h cells slots := by
  have hln : len = lnI (.sipush n) := by simpa [lnB] using hln
  subst hln
  unfold stepQ stepK at hs
  dsimp only at hs
  cases hs
  simp only [Nat.sub_self, Nat.add_zero] at hc2 hs2
  subst hc2; subst hs2
  exact s_sipush (by simp only [eB, Bool.and_eq_true, decide_eq_true_eq] at hE; exact hE) hd F k
theorem q_lconst {G : GG} {p : Program} {l : Launch} {e : Env} {R : Room} {s : State} {m : MethodId} {args : Array Value} {below : List Frame} {meth : Method} {c : Code} {Q : State → Prop} {y pc cells slots cells2 slots2 : Nat} {L L2 : Lv} {st st2 : List AV} {S S2 : Sh} {h h2 : Mem} {rk len pc2 : Nat} {ax : Nat × Nat × Nat × Int} {n : Fin 2} (F : XFC G p s m args meth c y R) (K : LK) (hz : s.heap.size + cells = gz G + (S.length - 1)) (hc2 : cells2 = cells + (S2.length - S.length)) (hs2 : slots2 = slots + (slt S2 - slt S)) (hr1 : cells2 ≤ R.cells) (hr2 : slots2 ≤ R.slots) (hcls : (mdN y).1.cls = ownN (ownY.getD y 0))
    (hE : eB (ownY.getD y 0) ((mdN y).1.name == "<init>") (mdN y).2.2.1 pc (.lconst n) len ax = true) (hd : decode (mdN y).2.1 pc = .ok (.lconst n, len)) (hln : lnB (.lconst n) len = true)
    (hs : stepQ (gX G) rk (.lconst n) len ax pc L st S h = some (.inl (pc2, L2, st2, S2, h2))) (k : WC G p l e R s m args below meth c Q y pc2 L2 st2 S2 h2 cells2 slots2) : WC G p l e R s m args below meth c Q y pc L st S h cells slots := by
  have hln : len = lnI (.lconst n) := by simpa [lnB] using hln
  subst hln
  unfold stepQ stepK at hs
  dsimp only at hs
  cases hs
  simp only [Nat.sub_self, Nat.add_zero] at hc2 hs2
  subst hc2; subst hs2
  exact s_lconst hd F k
theorem q_iload_n {G : GG} {p : Program} {l : Launch} {e : Env} {R : Room} {s : State} {m : MethodId} {args : Array Value} {below : List Frame} {meth : Method} {c : Code} {Q : State → Prop} {y pc cells slots cells2 slots2 : Nat} {L L2 : Lv} {st st2 : List AV} {S S2 : Sh} {h h2 : Mem} {rk len pc2 : Nat} {ax : Nat × Nat × Nat × Int} {n : Fin 4} (F : XFC G p s m args meth c y R) (K : LK) (hz : s.heap.size + cells = gz G + (S.length - 1)) (hc2 : cells2 = cells + (S2.length - S.length)) (hs2 : slots2 = slots + (slt S2 - slt S)) (hr1 : cells2 ≤ R.cells) (hr2 : slots2 ≤ R.slots) (hcls : (mdN y).1.cls = ownN (ownY.getD y 0))
    (hE : eB (ownY.getD y 0) ((mdN y).1.name == "<init>") (mdN y).2.2.1 pc (.iload_n n) len ax = true) (hd : decode (mdN y).2.1 pc = .ok (.iload_n n, len)) (hln : lnB (.iload_n n) len = true)
    (hs : stepQ (gX G) rk (.iload_n n) len ax pc L st S h = some (.inl (pc2, L2, st2, S2, h2))) (k : WC G p l e R s m args below meth c Q y pc2 L2 st2 S2 h2 cells2 slots2) : WC G p l e R s m args below meth c Q y pc L st S h cells slots := by
  have hln : len = lnI (.iload_n n) := by simpa [lnB] using hln
  subst hln
  unfold stepQ stepK at hs
  dsimp only at hs
  obtain ⟨x, hx1, hs⟩ := xoK_some hs
  cases hs
  simp only [Nat.sub_self, Nat.add_zero] at hc2 hs2
  subst hc2; subst hs2
  exact s_iload_n (ldI_some hx1) hd F k
theorem q_iload {G : GG} {p : Program} {l : Launch} {e : Env} {R : Room} {s : State} {m : MethodId} {args : Array Value} {below : List Frame} {meth : Method} {c : Code} {Q : State → Prop} {y pc cells slots cells2 slots2 : Nat} {L L2 : Lv} {st st2 : List AV} {S S2 : Sh} {h h2 : Mem} {rk len pc2 : Nat} {ax : Nat × Nat × Nat × Int} {n : Nat} (F : XFC G p s m args meth c y R) (K : LK) (hz : s.heap.size + cells = gz G + (S.length - 1)) (hc2 : cells2 = cells + (S2.length - S.length)) (hs2 : slots2 = slots + (slt S2 - slt S)) (hr1 : cells2 ≤ R.cells) (hr2 : slots2 ≤ R.slots) (hcls : (mdN y).1.cls = ownN (ownY.getD y 0))
    (hE : eB (ownY.getD y 0) ((mdN y).1.name == "<init>") (mdN y).2.2.1 pc (.iload n) len ax = true) (hd : decode (mdN y).2.1 pc = .ok (.iload n, len)) (hln : lnB (.iload n) len = true)
    (hs : stepQ (gX G) rk (.iload n) len ax pc L st S h = some (.inl (pc2, L2, st2, S2, h2))) (k : WC G p l e R s m args below meth c Q y pc2 L2 st2 S2 h2 cells2 slots2) : WC G p l e R s m args below meth c Q y pc L st S h cells slots := by
  have hln : len = lnI (.iload n) := by simpa [lnB] using hln
  subst hln
  unfold stepQ stepK at hs
  dsimp only at hs
  obtain ⟨x, hx1, hs⟩ := xoK_some hs
  cases hs
  simp only [Nat.sub_self, Nat.add_zero] at hc2 hs2
  subst hc2; subst hs2
  exact s_iload (ldI_some hx1) hd F k
theorem q_lload_n {G : GG} {p : Program} {l : Launch} {e : Env} {R : Room} {s : State} {m : MethodId} {args : Array Value} {below : List Frame} {meth : Method} {c : Code} {Q : State → Prop} {y pc cells slots cells2 slots2 : Nat} {L L2 : Lv} {st st2 : List AV} {S S2 : Sh} {h h2 : Mem} {rk len pc2 : Nat} {ax : Nat × Nat × Nat × Int} {n : Fin 4} (F : XFC G p s m args meth c y R) (K : LK) (hz : s.heap.size + cells = gz G + (S.length - 1)) (hc2 : cells2 = cells + (S2.length - S.length)) (hs2 : slots2 = slots + (slt S2 - slt S)) (hr1 : cells2 ≤ R.cells) (hr2 : slots2 ≤ R.slots) (hcls : (mdN y).1.cls = ownN (ownY.getD y 0))
    (hE : eB (ownY.getD y 0) ((mdN y).1.name == "<init>") (mdN y).2.2.1 pc (.lload_n n) len ax = true) (hd : decode (mdN y).2.1 pc = .ok (.lload_n n, len)) (hln : lnB (.lload_n n) len = true)
    (hs : stepQ (gX G) rk (.lload_n n) len ax pc L st S h = some (.inl (pc2, L2, st2, S2, h2))) (k : WC G p l e R s m args below meth c Q y pc2 L2 st2 S2 h2 cells2 slots2) : WC G p l e R s m args below meth c Q y pc L st S h cells slots := by
  have hln : len = lnI (.lload_n n) := by simpa [lnB] using hln
  subst hln
  unfold stepQ stepK at hs
  dsimp only at hs
  obtain ⟨x, hx1, hs⟩ := xoK_some hs
  cases hs
  simp only [Nat.sub_self, Nat.add_zero] at hc2 hs2
  subst hc2; subst hs2
  exact s_lload_n (ldJ_some hx1) hd F k
theorem q_lload {G : GG} {p : Program} {l : Launch} {e : Env} {R : Room} {s : State} {m : MethodId} {args : Array Value} {below : List Frame} {meth : Method} {c : Code} {Q : State → Prop} {y pc cells slots cells2 slots2 : Nat} {L L2 : Lv} {st st2 : List AV} {S S2 : Sh} {h h2 : Mem} {rk len pc2 : Nat} {ax : Nat × Nat × Nat × Int} {n : Nat} (F : XFC G p s m args meth c y R) (K : LK) (hz : s.heap.size + cells = gz G + (S.length - 1)) (hc2 : cells2 = cells + (S2.length - S.length)) (hs2 : slots2 = slots + (slt S2 - slt S)) (hr1 : cells2 ≤ R.cells) (hr2 : slots2 ≤ R.slots) (hcls : (mdN y).1.cls = ownN (ownY.getD y 0))
    (hE : eB (ownY.getD y 0) ((mdN y).1.name == "<init>") (mdN y).2.2.1 pc (.lload n) len ax = true) (hd : decode (mdN y).2.1 pc = .ok (.lload n, len)) (hln : lnB (.lload n) len = true)
    (hs : stepQ (gX G) rk (.lload n) len ax pc L st S h = some (.inl (pc2, L2, st2, S2, h2))) (k : WC G p l e R s m args below meth c Q y pc2 L2 st2 S2 h2 cells2 slots2) : WC G p l e R s m args below meth c Q y pc L st S h cells slots := by
  have hln : len = lnI (.lload n) := by simpa [lnB] using hln
  subst hln
  unfold stepQ stepK at hs
  dsimp only at hs
  obtain ⟨x, hx1, hs⟩ := xoK_some hs
  cases hs
  simp only [Nat.sub_self, Nat.add_zero] at hc2 hs2
  subst hc2; subst hs2
  exact s_lload (ldJ_some hx1) hd F k
theorem q_aload_n {G : GG} {p : Program} {l : Launch} {e : Env} {R : Room} {s : State} {m : MethodId} {args : Array Value} {below : List Frame} {meth : Method} {c : Code} {Q : State → Prop} {y pc cells slots cells2 slots2 : Nat} {L L2 : Lv} {st st2 : List AV} {S S2 : Sh} {h h2 : Mem} {rk len pc2 : Nat} {ax : Nat × Nat × Nat × Int} {n : Fin 4} (F : XFC G p s m args meth c y R) (K : LK) (hz : s.heap.size + cells = gz G + (S.length - 1)) (hc2 : cells2 = cells + (S2.length - S.length)) (hs2 : slots2 = slots + (slt S2 - slt S)) (hr1 : cells2 ≤ R.cells) (hr2 : slots2 ≤ R.slots) (hcls : (mdN y).1.cls = ownN (ownY.getD y 0))
    (hE : eB (ownY.getD y 0) ((mdN y).1.name == "<init>") (mdN y).2.2.1 pc (.aload_n n) len ax = true) (hd : decode (mdN y).2.1 pc = .ok (.aload_n n, len)) (hln : lnB (.aload_n n) len = true)
    (hs : stepQ (gX G) rk (.aload_n n) len ax pc L st S h = some (.inl (pc2, L2, st2, S2, h2))) (k : WC G p l e R s m args below meth c Q y pc2 L2 st2 S2 h2 cells2 slots2) : WC G p l e R s m args below meth c Q y pc L st S h cells slots := by
  have hln : len = lnI (.aload_n n) := by simpa [lnB] using hln
  subst hln
  unfold stepQ stepK at hs
  dsimp only at hs
  obtain ⟨x, hx1, hs⟩ := xoK_some hs
  cases hs
  simp only [Nat.sub_self, Nat.add_zero] at hc2 hs2
  subst hc2; subst hs2
  exact s_aload_n (ldA_some hx1) hd F k
theorem q_aload {G : GG} {p : Program} {l : Launch} {e : Env} {R : Room} {s : State} {m : MethodId} {args : Array Value} {below : List Frame} {meth : Method} {c : Code} {Q : State → Prop} {y pc cells slots cells2 slots2 : Nat} {L L2 : Lv} {st st2 : List AV} {S S2 : Sh} {h h2 : Mem} {rk len pc2 : Nat} {ax : Nat × Nat × Nat × Int} {n : Nat} (F : XFC G p s m args meth c y R) (K : LK) (hz : s.heap.size + cells = gz G + (S.length - 1)) (hc2 : cells2 = cells + (S2.length - S.length)) (hs2 : slots2 = slots + (slt S2 - slt S)) (hr1 : cells2 ≤ R.cells) (hr2 : slots2 ≤ R.slots) (hcls : (mdN y).1.cls = ownN (ownY.getD y 0))
    (hE : eB (ownY.getD y 0) ((mdN y).1.name == "<init>") (mdN y).2.2.1 pc (.aload n) len ax = true) (hd : decode (mdN y).2.1 pc = .ok (.aload n, len)) (hln : lnB (.aload n) len = true)
    (hs : stepQ (gX G) rk (.aload n) len ax pc L st S h = some (.inl (pc2, L2, st2, S2, h2))) (k : WC G p l e R s m args below meth c Q y pc2 L2 st2 S2 h2 cells2 slots2) : WC G p l e R s m args below meth c Q y pc L st S h cells slots := by
  have hln : len = lnI (.aload n) := by simpa [lnB] using hln
  subst hln
  unfold stepQ stepK at hs
  dsimp only at hs
  obtain ⟨x, hx1, hs⟩ := xoK_some hs
  cases hs
  simp only [Nat.sub_self, Nat.add_zero] at hc2 hs2
  subst hc2; subst hs2
  exact s_aload (ldA_some hx1) hd F k
theorem q_istore_n {G : GG} {p : Program} {l : Launch} {e : Env} {R : Room} {s : State} {m : MethodId} {args : Array Value} {below : List Frame} {meth : Method} {c : Code} {Q : State → Prop} {y pc cells slots cells2 slots2 : Nat} {L L2 : Lv} {st st2 : List AV} {S S2 : Sh} {h h2 : Mem} {rk len pc2 : Nat} {ax : Nat × Nat × Nat × Int} {n : Fin 4} (F : XFC G p s m args meth c y R) (K : LK) (hz : s.heap.size + cells = gz G + (S.length - 1)) (hc2 : cells2 = cells + (S2.length - S.length)) (hs2 : slots2 = slots + (slt S2 - slt S)) (hr1 : cells2 ≤ R.cells) (hr2 : slots2 ≤ R.slots) (hcls : (mdN y).1.cls = ownN (ownY.getD y 0))
    (hE : eB (ownY.getD y 0) ((mdN y).1.name == "<init>") (mdN y).2.2.1 pc (.istore_n n) len ax = true) (hd : decode (mdN y).2.1 pc = .ok (.istore_n n, len)) (hln : lnB (.istore_n n) len = true)
    (hs : stepQ (gX G) rk (.istore_n n) len ax pc L st S h = some (.inl (pc2, L2, st2, S2, h2))) (k : WC G p l e R s m args below meth c Q y pc2 L2 st2 S2 h2 cells2 slots2) : WC G p l e R s m args below meth c Q y pc L st S h cells slots := by
  have hln : len = lnI (.istore_n n) := by simpa [lnB] using hln
  subst hln
  unfold stepQ stepK at hs
  dsimp only at hs
  obtain ⟨x, r, rfl, ht⟩ := pI_some hs
  cases ht
  simp only [Nat.sub_self, Nat.add_zero] at hc2 hs2
  subst hc2; subst hs2
  exact s_istore_n (by simpa [eB] using hE) hd F k
theorem q_istore {G : GG} {p : Program} {l : Launch} {e : Env} {R : Room} {s : State} {m : MethodId} {args : Array Value} {below : List Frame} {meth : Method} {c : Code} {Q : State → Prop} {y pc cells slots cells2 slots2 : Nat} {L L2 : Lv} {st st2 : List AV} {S S2 : Sh} {h h2 : Mem} {rk len pc2 : Nat} {ax : Nat × Nat × Nat × Int} {n : Nat} (F : XFC G p s m args meth c y R) (K : LK) (hz : s.heap.size + cells = gz G + (S.length - 1)) (hc2 : cells2 = cells + (S2.length - S.length)) (hs2 : slots2 = slots + (slt S2 - slt S)) (hr1 : cells2 ≤ R.cells) (hr2 : slots2 ≤ R.slots) (hcls : (mdN y).1.cls = ownN (ownY.getD y 0))
    (hE : eB (ownY.getD y 0) ((mdN y).1.name == "<init>") (mdN y).2.2.1 pc (.istore n) len ax = true) (hd : decode (mdN y).2.1 pc = .ok (.istore n, len)) (hln : lnB (.istore n) len = true)
    (hs : stepQ (gX G) rk (.istore n) len ax pc L st S h = some (.inl (pc2, L2, st2, S2, h2))) (k : WC G p l e R s m args below meth c Q y pc2 L2 st2 S2 h2 cells2 slots2) : WC G p l e R s m args below meth c Q y pc L st S h cells slots := by
  have hln : len = lnI (.istore n) := by simpa [lnB] using hln
  subst hln
  unfold stepQ stepK at hs
  dsimp only at hs
  obtain ⟨x, r, rfl, ht⟩ := pI_some hs
  cases ht
  simp only [Nat.sub_self, Nat.add_zero] at hc2 hs2
  subst hc2; subst hs2
  exact s_istore (by simpa [eB] using hE) hd F k
theorem q_lstore_n {G : GG} {p : Program} {l : Launch} {e : Env} {R : Room} {s : State} {m : MethodId} {args : Array Value} {below : List Frame} {meth : Method} {c : Code} {Q : State → Prop} {y pc cells slots cells2 slots2 : Nat} {L L2 : Lv} {st st2 : List AV} {S S2 : Sh} {h h2 : Mem} {rk len pc2 : Nat} {ax : Nat × Nat × Nat × Int} {n : Fin 4} (F : XFC G p s m args meth c y R) (K : LK) (hz : s.heap.size + cells = gz G + (S.length - 1)) (hc2 : cells2 = cells + (S2.length - S.length)) (hs2 : slots2 = slots + (slt S2 - slt S)) (hr1 : cells2 ≤ R.cells) (hr2 : slots2 ≤ R.slots) (hcls : (mdN y).1.cls = ownN (ownY.getD y 0))
    (hE : eB (ownY.getD y 0) ((mdN y).1.name == "<init>") (mdN y).2.2.1 pc (.lstore_n n) len ax = true) (hd : decode (mdN y).2.1 pc = .ok (.lstore_n n, len)) (hln : lnB (.lstore_n n) len = true)
    (hs : stepQ (gX G) rk (.lstore_n n) len ax pc L st S h = some (.inl (pc2, L2, st2, S2, h2))) (k : WC G p l e R s m args below meth c Q y pc2 L2 st2 S2 h2 cells2 slots2) : WC G p l e R s m args below meth c Q y pc L st S h cells slots := by
  have hln : len = lnI (.lstore_n n) := by simpa [lnB] using hln
  subst hln
  unfold stepQ stepK at hs
  dsimp only at hs
  obtain ⟨x, r, rfl, ht⟩ := pJ_some hs
  cases ht
  simp only [Nat.sub_self, Nat.add_zero] at hc2 hs2
  subst hc2; subst hs2
  exact s_lstore_n (by simpa [eB] using hE) hd F k
theorem q_lstore {G : GG} {p : Program} {l : Launch} {e : Env} {R : Room} {s : State} {m : MethodId} {args : Array Value} {below : List Frame} {meth : Method} {c : Code} {Q : State → Prop} {y pc cells slots cells2 slots2 : Nat} {L L2 : Lv} {st st2 : List AV} {S S2 : Sh} {h h2 : Mem} {rk len pc2 : Nat} {ax : Nat × Nat × Nat × Int} {n : Nat} (F : XFC G p s m args meth c y R) (K : LK) (hz : s.heap.size + cells = gz G + (S.length - 1)) (hc2 : cells2 = cells + (S2.length - S.length)) (hs2 : slots2 = slots + (slt S2 - slt S)) (hr1 : cells2 ≤ R.cells) (hr2 : slots2 ≤ R.slots) (hcls : (mdN y).1.cls = ownN (ownY.getD y 0))
    (hE : eB (ownY.getD y 0) ((mdN y).1.name == "<init>") (mdN y).2.2.1 pc (.lstore n) len ax = true) (hd : decode (mdN y).2.1 pc = .ok (.lstore n, len)) (hln : lnB (.lstore n) len = true)
    (hs : stepQ (gX G) rk (.lstore n) len ax pc L st S h = some (.inl (pc2, L2, st2, S2, h2))) (k : WC G p l e R s m args below meth c Q y pc2 L2 st2 S2 h2 cells2 slots2) : WC G p l e R s m args below meth c Q y pc L st S h cells slots := by
  have hln : len = lnI (.lstore n) := by simpa [lnB] using hln
  subst hln
  unfold stepQ stepK at hs
  dsimp only at hs
  obtain ⟨x, r, rfl, ht⟩ := pJ_some hs
  cases ht
  simp only [Nat.sub_self, Nat.add_zero] at hc2 hs2
  subst hc2; subst hs2
  exact s_lstore (by simpa [eB] using hE) hd F k
theorem q_astore_n {G : GG} {p : Program} {l : Launch} {e : Env} {R : Room} {s : State} {m : MethodId} {args : Array Value} {below : List Frame} {meth : Method} {c : Code} {Q : State → Prop} {y pc cells slots cells2 slots2 : Nat} {L L2 : Lv} {st st2 : List AV} {S S2 : Sh} {h h2 : Mem} {rk len pc2 : Nat} {ax : Nat × Nat × Nat × Int} {n : Fin 4} (F : XFC G p s m args meth c y R) (K : LK) (hz : s.heap.size + cells = gz G + (S.length - 1)) (hc2 : cells2 = cells + (S2.length - S.length)) (hs2 : slots2 = slots + (slt S2 - slt S)) (hr1 : cells2 ≤ R.cells) (hr2 : slots2 ≤ R.slots) (hcls : (mdN y).1.cls = ownN (ownY.getD y 0))
    (hE : eB (ownY.getD y 0) ((mdN y).1.name == "<init>") (mdN y).2.2.1 pc (.astore_n n) len ax = true) (hd : decode (mdN y).2.1 pc = .ok (.astore_n n, len)) (hln : lnB (.astore_n n) len = true)
    (hs : stepQ (gX G) rk (.astore_n n) len ax pc L st S h = some (.inl (pc2, L2, st2, S2, h2))) (k : WC G p l e R s m args below meth c Q y pc2 L2 st2 S2 h2 cells2 slots2) : WC G p l e R s m args below meth c Q y pc L st S h cells slots := by
  have hln : len = lnI (.astore_n n) := by simpa [lnB] using hln
  subst hln
  unfold stepQ stepK at hs
  dsimp only at hs
  obtain ⟨x, r, rfl, ht⟩ := pA_some hs
  cases ht
  simp only [Nat.sub_self, Nat.add_zero] at hc2 hs2
  subst hc2; subst hs2
  exact s_astore_n (by simpa [eB] using hE) hd F k
theorem q_astore {G : GG} {p : Program} {l : Launch} {e : Env} {R : Room} {s : State} {m : MethodId} {args : Array Value} {below : List Frame} {meth : Method} {c : Code} {Q : State → Prop} {y pc cells slots cells2 slots2 : Nat} {L L2 : Lv} {st st2 : List AV} {S S2 : Sh} {h h2 : Mem} {rk len pc2 : Nat} {ax : Nat × Nat × Nat × Int} {n : Nat} (F : XFC G p s m args meth c y R) (K : LK) (hz : s.heap.size + cells = gz G + (S.length - 1)) (hc2 : cells2 = cells + (S2.length - S.length)) (hs2 : slots2 = slots + (slt S2 - slt S)) (hr1 : cells2 ≤ R.cells) (hr2 : slots2 ≤ R.slots) (hcls : (mdN y).1.cls = ownN (ownY.getD y 0))
    (hE : eB (ownY.getD y 0) ((mdN y).1.name == "<init>") (mdN y).2.2.1 pc (.astore n) len ax = true) (hd : decode (mdN y).2.1 pc = .ok (.astore n, len)) (hln : lnB (.astore n) len = true)
    (hs : stepQ (gX G) rk (.astore n) len ax pc L st S h = some (.inl (pc2, L2, st2, S2, h2))) (k : WC G p l e R s m args below meth c Q y pc2 L2 st2 S2 h2 cells2 slots2) : WC G p l e R s m args below meth c Q y pc L st S h cells slots := by
  have hln : len = lnI (.astore n) := by simpa [lnB] using hln
  subst hln
  unfold stepQ stepK at hs
  dsimp only at hs
  obtain ⟨x, r, rfl, ht⟩ := pA_some hs
  cases ht
  simp only [Nat.sub_self, Nat.add_zero] at hc2 hs2
  subst hc2; subst hs2
  exact s_astore (by simpa [eB] using hE) hd F k
theorem q_iinc {G : GG} {p : Program} {l : Launch} {e : Env} {R : Room} {s : State} {m : MethodId} {args : Array Value} {below : List Frame} {meth : Method} {c : Code} {Q : State → Prop} {y pc cells slots cells2 slots2 : Nat} {L L2 : Lv} {st st2 : List AV} {S S2 : Sh} {h h2 : Mem} {rk len pc2 : Nat} {ax : Nat × Nat × Nat × Int} {n : Nat} {dl : Int} (F : XFC G p s m args meth c y R) (K : LK) (hz : s.heap.size + cells = gz G + (S.length - 1)) (hc2 : cells2 = cells + (S2.length - S.length)) (hs2 : slots2 = slots + (slt S2 - slt S)) (hr1 : cells2 ≤ R.cells) (hr2 : slots2 ≤ R.slots) (hcls : (mdN y).1.cls = ownN (ownY.getD y 0))
    (hE : eB (ownY.getD y 0) ((mdN y).1.name == "<init>") (mdN y).2.2.1 pc (.iinc n dl) len ax = true) (hd : decode (mdN y).2.1 pc = .ok (.iinc n dl, len)) (hln : lnB (.iinc n dl) len = true)
    (hs : stepQ (gX G) rk (.iinc n dl) len ax pc L st S h = some (.inl (pc2, L2, st2, S2, h2))) (k : WC G p l e R s m args below meth c Q y pc2 L2 st2 S2 h2 cells2 slots2) : WC G p l e R s m args below meth c Q y pc L st S h cells slots := by
  have hln : len = lnI (.iinc n dl) := by simpa [lnB] using hln
  subst hln
  unfold stepQ stepK at hs
  dsimp only at hs
  obtain ⟨x, hx1, hs⟩ := xoK_some hs
  cases hs
  simp only [Nat.sub_self, Nat.add_zero] at hc2 hs2
  subst hc2; subst hs2
  exact s_iinc (ldI_some hx1) (by simp [eB] at hE; omega) hd F k
theorem q_dup {G : GG} {p : Program} {l : Launch} {e : Env} {R : Room} {s : State} {m : MethodId} {args : Array Value} {below : List Frame} {meth : Method} {c : Code} {Q : State → Prop} {y pc cells slots cells2 slots2 : Nat} {L L2 : Lv} {st st2 : List AV} {S S2 : Sh} {h h2 : Mem} {rk len pc2 : Nat} {ax : Nat × Nat × Nat × Int} (F : XFC G p s m args meth c y R) (K : LK) (hz : s.heap.size + cells = gz G + (S.length - 1)) (hc2 : cells2 = cells + (S2.length - S.length)) (hs2 : slots2 = slots + (slt S2 - slt S)) (hr1 : cells2 ≤ R.cells) (hr2 : slots2 ≤ R.slots) (hcls : (mdN y).1.cls = ownN (ownY.getD y 0))
    (hE : eB (ownY.getD y 0) ((mdN y).1.name == "<init>") (mdN y).2.2.1 pc (.dup) len ax = true) (hd : decode (mdN y).2.1 pc = .ok (.dup, len)) (hln : lnB (.dup) len = true)
    (hs : stepQ (gX G) rk (.dup) len ax pc L st S h = some (.inl (pc2, L2, st2, S2, h2))) (k : WC G p l e R s m args below meth c Q y pc2 L2 st2 S2 h2 cells2 slots2) : WC G p l e R s m args below meth c Q y pc L st S h cells slots := by
  have hln : len = lnI (.dup) := by simpa [lnB] using hln
  subst hln
  unfold stepQ stepK at hs
  dsimp only at hs
  obtain ⟨v, r, rfl, ht⟩ := pV_some hs
  split at ht
  case isFalse => cases ht
  next hc =>
  cases ht
  simp only [Nat.sub_self, Nat.add_zero] at hc2 hs2
  subst hc2; subst hs2
  exact s_dup hc hd F k
theorem q_pop {G : GG} {p : Program} {l : Launch} {e : Env} {R : Room} {s : State} {m : MethodId} {args : Array Value} {below : List Frame} {meth : Method} {c : Code} {Q : State → Prop} {y pc cells slots cells2 slots2 : Nat} {L L2 : Lv} {st st2 : List AV} {S S2 : Sh} {h h2 : Mem} {rk len pc2 : Nat} {ax : Nat × Nat × Nat × Int} (F : XFC G p s m args meth c y R) (K : LK) (hz : s.heap.size + cells = gz G + (S.length - 1)) (hc2 : cells2 = cells + (S2.length - S.length)) (hs2 : slots2 = slots + (slt S2 - slt S)) (hr1 : cells2 ≤ R.cells) (hr2 : slots2 ≤ R.slots) (hcls : (mdN y).1.cls = ownN (ownY.getD y 0))
    (hE : eB (ownY.getD y 0) ((mdN y).1.name == "<init>") (mdN y).2.2.1 pc (.pop) len ax = true) (hd : decode (mdN y).2.1 pc = .ok (.pop, len)) (hln : lnB (.pop) len = true)
    (hs : stepQ (gX G) rk (.pop) len ax pc L st S h = some (.inl (pc2, L2, st2, S2, h2))) (k : WC G p l e R s m args below meth c Q y pc2 L2 st2 S2 h2 cells2 slots2) : WC G p l e R s m args below meth c Q y pc L st S h cells slots := by
  have hln : len = lnI (.pop) := by simpa [lnB] using hln
  subst hln
  unfold stepQ stepK at hs
  dsimp only at hs
  obtain ⟨v, r, rfl, ht⟩ := pV_some hs
  split at ht
  case isFalse => cases ht
  next hc =>
  cases ht
  simp only [Nat.sub_self, Nat.add_zero] at hc2 hs2
  subst hc2; subst hs2
  exact s_pop hc hd F k
theorem q_dup2 {G : GG} {p : Program} {l : Launch} {e : Env} {R : Room} {s : State} {m : MethodId} {args : Array Value} {below : List Frame} {meth : Method} {c : Code} {Q : State → Prop} {y pc cells slots cells2 slots2 : Nat} {L L2 : Lv} {st st2 : List AV} {S S2 : Sh} {h h2 : Mem} {rk len pc2 : Nat} {ax : Nat × Nat × Nat × Int} (F : XFC G p s m args meth c y R) (K : LK) (hz : s.heap.size + cells = gz G + (S.length - 1)) (hc2 : cells2 = cells + (S2.length - S.length)) (hs2 : slots2 = slots + (slt S2 - slt S)) (hr1 : cells2 ≤ R.cells) (hr2 : slots2 ≤ R.slots) (hcls : (mdN y).1.cls = ownN (ownY.getD y 0))
    (hE : eB (ownY.getD y 0) ((mdN y).1.name == "<init>") (mdN y).2.2.1 pc (.dup2) len ax = true) (hd : decode (mdN y).2.1 pc = .ok (.dup2, len)) (hln : lnB (.dup2) len = true)
    (hs : stepQ (gX G) rk (.dup2) len ax pc L st S h = some (.inl (pc2, L2, st2, S2, h2))) (k : WC G p l e R s m args below meth c Q y pc2 L2 st2 S2 h2 cells2 slots2) : WC G p l e R s m args below meth c Q y pc L st S h cells slots := by
  have hln : len = lnI (.dup2) := by simpa [lnB] using hln
  subst hln
  unfold stepQ stepK at hs
  dsimp only at hs
  obtain ⟨v, w, r, rfl, ht⟩ := pVV_some hs
  split at ht
  case isFalse => cases ht
  next hc =>
  cases ht
  simp only [Nat.sub_self, Nat.add_zero] at hc2 hs2
  subst hc2; subst hs2
  exact s_dup2 hc hd F k
theorem q_iadd {G : GG} {p : Program} {l : Launch} {e : Env} {R : Room} {s : State} {m : MethodId} {args : Array Value} {below : List Frame} {meth : Method} {c : Code} {Q : State → Prop} {y pc cells slots cells2 slots2 : Nat} {L L2 : Lv} {st st2 : List AV} {S S2 : Sh} {h h2 : Mem} {rk len pc2 : Nat} {ax : Nat × Nat × Nat × Int} (F : XFC G p s m args meth c y R) (K : LK) (hz : s.heap.size + cells = gz G + (S.length - 1)) (hc2 : cells2 = cells + (S2.length - S.length)) (hs2 : slots2 = slots + (slt S2 - slt S)) (hr1 : cells2 ≤ R.cells) (hr2 : slots2 ≤ R.slots) (hcls : (mdN y).1.cls = ownN (ownY.getD y 0))
    (hE : eB (ownY.getD y 0) ((mdN y).1.name == "<init>") (mdN y).2.2.1 pc (.iadd) len ax = true) (hd : decode (mdN y).2.1 pc = .ok (.iadd, len)) (hln : lnB (.iadd) len = true)
    (hs : stepQ (gX G) rk (.iadd) len ax pc L st S h = some (.inl (pc2, L2, st2, S2, h2))) (k : WC G p l e R s m args below meth c Q y pc2 L2 st2 S2 h2 cells2 slots2) : WC G p l e R s m args below meth c Q y pc L st S h cells slots := by
  have hln : len = lnI (.iadd) := by simpa [lnB] using hln
  subst hln
  unfold stepQ stepK at hs
  dsimp only at hs
  obtain ⟨a, b, r, rfl, ht⟩ := pII_some hs
  cases ht
  simp only [Nat.sub_self, Nat.add_zero] at hc2 hs2
  subst hc2; subst hs2
  exact s_iadd hd F k
theorem q_isub {G : GG} {p : Program} {l : Launch} {e : Env} {R : Room} {s : State} {m : MethodId} {args : Array Value} {below : List Frame} {meth : Method} {c : Code} {Q : State → Prop} {y pc cells slots cells2 slots2 : Nat} {L L2 : Lv} {st st2 : List AV} {S S2 : Sh} {h h2 : Mem} {rk len pc2 : Nat} {ax : Nat × Nat × Nat × Int} (F : XFC G p s m args meth c y R) (K : LK) (hz : s.heap.size + cells = gz G + (S.length - 1)) (hc2 : cells2 = cells + (S2.length - S.length)) (hs2 : slots2 = slots + (slt S2 - slt S)) (hr1 : cells2 ≤ R.cells) (hr2 : slots2 ≤ R.slots) (hcls : (mdN y).1.cls = ownN (ownY.getD y 0))
    (hE : eB (ownY.getD y 0) ((mdN y).1.name == "<init>") (mdN y).2.2.1 pc (.isub) len ax = true) (hd : decode (mdN y).2.1 pc = .ok (.isub, len)) (hln : lnB (.isub) len = true)
    (hs : stepQ (gX G) rk (.isub) len ax pc L st S h = some (.inl (pc2, L2, st2, S2, h2))) (k : WC G p l e R s m args below meth c Q y pc2 L2 st2 S2 h2 cells2 slots2) : WC G p l e R s m args below meth c Q y pc L st S h cells slots := by
  have hln : len = lnI (.isub) := by simpa [lnB] using hln
  subst hln
  unfold stepQ stepK at hs
  dsimp only at hs
  obtain ⟨a, b, r, rfl, ht⟩ := pII_some hs
  cases ht
  simp only [Nat.sub_self, Nat.add_zero] at hc2 hs2
  subst hc2; subst hs2
  exact s_isub hd F k
theorem q_imul {G : GG} {p : Program} {l : Launch} {e : Env} {R : Room} {s : State} {m : MethodId} {args : Array Value} {below : List Frame} {meth : Method} {c : Code} {Q : State → Prop} {y pc cells slots cells2 slots2 : Nat} {L L2 : Lv} {st st2 : List AV} {S S2 : Sh} {h h2 : Mem} {rk len pc2 : Nat} {ax : Nat × Nat × Nat × Int} (F : XFC G p s m args meth c y R) (K : LK) (hz : s.heap.size + cells = gz G + (S.length - 1)) (hc2 : cells2 = cells + (S2.length - S.length)) (hs2 : slots2 = slots + (slt S2 - slt S)) (hr1 : cells2 ≤ R.cells) (hr2 : slots2 ≤ R.slots) (hcls : (mdN y).1.cls = ownN (ownY.getD y 0))
    (hE : eB (ownY.getD y 0) ((mdN y).1.name == "<init>") (mdN y).2.2.1 pc (.imul) len ax = true) (hd : decode (mdN y).2.1 pc = .ok (.imul, len)) (hln : lnB (.imul) len = true)
    (hs : stepQ (gX G) rk (.imul) len ax pc L st S h = some (.inl (pc2, L2, st2, S2, h2))) (k : WC G p l e R s m args below meth c Q y pc2 L2 st2 S2 h2 cells2 slots2) : WC G p l e R s m args below meth c Q y pc L st S h cells slots := by
  have hln : len = lnI (.imul) := by simpa [lnB] using hln
  subst hln
  unfold stepQ stepK at hs
  dsimp only at hs
  obtain ⟨a, b, r, rfl, ht⟩ := pII_some hs
  cases ht
  simp only [Nat.sub_self, Nat.add_zero] at hc2 hs2
  subst hc2; subst hs2
  exact s_imul hd F k
theorem q_iand {G : GG} {p : Program} {l : Launch} {e : Env} {R : Room} {s : State} {m : MethodId} {args : Array Value} {below : List Frame} {meth : Method} {c : Code} {Q : State → Prop} {y pc cells slots cells2 slots2 : Nat} {L L2 : Lv} {st st2 : List AV} {S S2 : Sh} {h h2 : Mem} {rk len pc2 : Nat} {ax : Nat × Nat × Nat × Int} (F : XFC G p s m args meth c y R) (K : LK) (hz : s.heap.size + cells = gz G + (S.length - 1)) (hc2 : cells2 = cells + (S2.length - S.length)) (hs2 : slots2 = slots + (slt S2 - slt S)) (hr1 : cells2 ≤ R.cells) (hr2 : slots2 ≤ R.slots) (hcls : (mdN y).1.cls = ownN (ownY.getD y 0))
    (hE : eB (ownY.getD y 0) ((mdN y).1.name == "<init>") (mdN y).2.2.1 pc (.iand) len ax = true) (hd : decode (mdN y).2.1 pc = .ok (.iand, len)) (hln : lnB (.iand) len = true)
    (hs : stepQ (gX G) rk (.iand) len ax pc L st S h = some (.inl (pc2, L2, st2, S2, h2))) (k : WC G p l e R s m args below meth c Q y pc2 L2 st2 S2 h2 cells2 slots2) : WC G p l e R s m args below meth c Q y pc L st S h cells slots := by
  have hln : len = lnI (.iand) := by simpa [lnB] using hln
  subst hln
  unfold stepQ stepK at hs
  dsimp only at hs
  obtain ⟨a, b, r, rfl, ht⟩ := pII_some hs
  cases ht
  simp only [Nat.sub_self, Nat.add_zero] at hc2 hs2
  subst hc2; subst hs2
  exact s_iand hd F k
theorem q_ior {G : GG} {p : Program} {l : Launch} {e : Env} {R : Room} {s : State} {m : MethodId} {args : Array Value} {below : List Frame} {meth : Method} {c : Code} {Q : State → Prop} {y pc cells slots cells2 slots2 : Nat} {L L2 : Lv} {st st2 : List AV} {S S2 : Sh} {h h2 : Mem} {rk len pc2 : Nat} {ax : Nat × Nat × Nat × Int} (F : XFC G p s m args meth c y R) (K : LK) (hz : s.heap.size + cells = gz G + (S.length - 1)) (hc2 : cells2 = cells + (S2.length - S.length)) (hs2 : slots2 = slots + (slt S2 - slt S)) (hr1 : cells2 ≤ R.cells) (hr2 : slots2 ≤ R.slots) (hcls : (mdN y).1.cls = ownN (ownY.getD y 0))
    (hE : eB (ownY.getD y 0) ((mdN y).1.name == "<init>") (mdN y).2.2.1 pc (.ior) len ax = true) (hd : decode (mdN y).2.1 pc = .ok (.ior, len)) (hln : lnB (.ior) len = true)
    (hs : stepQ (gX G) rk (.ior) len ax pc L st S h = some (.inl (pc2, L2, st2, S2, h2))) (k : WC G p l e R s m args below meth c Q y pc2 L2 st2 S2 h2 cells2 slots2) : WC G p l e R s m args below meth c Q y pc L st S h cells slots := by
  have hln : len = lnI (.ior) := by simpa [lnB] using hln
  subst hln
  unfold stepQ stepK at hs
  dsimp only at hs
  obtain ⟨a, b, r, rfl, ht⟩ := pII_some hs
  cases ht
  simp only [Nat.sub_self, Nat.add_zero] at hc2 hs2
  subst hc2; subst hs2
  exact s_ior hd F k
theorem q_ishl {G : GG} {p : Program} {l : Launch} {e : Env} {R : Room} {s : State} {m : MethodId} {args : Array Value} {below : List Frame} {meth : Method} {c : Code} {Q : State → Prop} {y pc cells slots cells2 slots2 : Nat} {L L2 : Lv} {st st2 : List AV} {S S2 : Sh} {h h2 : Mem} {rk len pc2 : Nat} {ax : Nat × Nat × Nat × Int} (F : XFC G p s m args meth c y R) (K : LK) (hz : s.heap.size + cells = gz G + (S.length - 1)) (hc2 : cells2 = cells + (S2.length - S.length)) (hs2 : slots2 = slots + (slt S2 - slt S)) (hr1 : cells2 ≤ R.cells) (hr2 : slots2 ≤ R.slots) (hcls : (mdN y).1.cls = ownN (ownY.getD y 0))
    (hE : eB (ownY.getD y 0) ((mdN y).1.name == "<init>") (mdN y).2.2.1 pc (.ishl) len ax = true) (hd : decode (mdN y).2.1 pc = .ok (.ishl, len)) (hln : lnB (.ishl) len = true)
    (hs : stepQ (gX G) rk (.ishl) len ax pc L st S h = some (.inl (pc2, L2, st2, S2, h2))) (k : WC G p l e R s m args below meth c Q y pc2 L2 st2 S2 h2 cells2 slots2) : WC G p l e R s m args below meth c Q y pc L st S h cells slots := by
  have hln : len = lnI (.ishl) := by simpa [lnB] using hln
  subst hln
  unfold stepQ stepK at hs
  dsimp only at hs
  obtain ⟨a, b, r, rfl, ht⟩ := pII_some hs
  cases ht
  simp only [Nat.sub_self, Nat.add_zero] at hc2 hs2
  subst hc2; subst hs2
  exact s_ishl hd F k
theorem q_ishr {G : GG} {p : Program} {l : Launch} {e : Env} {R : Room} {s : State} {m : MethodId} {args : Array Value} {below : List Frame} {meth : Method} {c : Code} {Q : State → Prop} {y pc cells slots cells2 slots2 : Nat} {L L2 : Lv} {st st2 : List AV} {S S2 : Sh} {h h2 : Mem} {rk len pc2 : Nat} {ax : Nat × Nat × Nat × Int} (F : XFC G p s m args meth c y R) (K : LK) (hz : s.heap.size + cells = gz G + (S.length - 1)) (hc2 : cells2 = cells + (S2.length - S.length)) (hs2 : slots2 = slots + (slt S2 - slt S)) (hr1 : cells2 ≤ R.cells) (hr2 : slots2 ≤ R.slots) (hcls : (mdN y).1.cls = ownN (ownY.getD y 0))
    (hE : eB (ownY.getD y 0) ((mdN y).1.name == "<init>") (mdN y).2.2.1 pc (.ishr) len ax = true) (hd : decode (mdN y).2.1 pc = .ok (.ishr, len)) (hln : lnB (.ishr) len = true)
    (hs : stepQ (gX G) rk (.ishr) len ax pc L st S h = some (.inl (pc2, L2, st2, S2, h2))) (k : WC G p l e R s m args below meth c Q y pc2 L2 st2 S2 h2 cells2 slots2) : WC G p l e R s m args below meth c Q y pc L st S h cells slots := by
  have hln : len = lnI (.ishr) := by simpa [lnB] using hln
  subst hln
  unfold stepQ stepK at hs
  dsimp only at hs
  obtain ⟨a, b, r, rfl, ht⟩ := pII_some hs
  cases ht
  simp only [Nat.sub_self, Nat.add_zero] at hc2 hs2
  subst hc2; subst hs2
  exact s_ishr hd F k
theorem q_iushr {G : GG} {p : Program} {l : Launch} {e : Env} {R : Room} {s : State} {m : MethodId} {args : Array Value} {below : List Frame} {meth : Method} {c : Code} {Q : State → Prop} {y pc cells slots cells2 slots2 : Nat} {L L2 : Lv} {st st2 : List AV} {S S2 : Sh} {h h2 : Mem} {rk len pc2 : Nat} {ax : Nat × Nat × Nat × Int} (F : XFC G p s m args meth c y R) (K : LK) (hz : s.heap.size + cells = gz G + (S.length - 1)) (hc2 : cells2 = cells + (S2.length - S.length)) (hs2 : slots2 = slots + (slt S2 - slt S)) (hr1 : cells2 ≤ R.cells) (hr2 : slots2 ≤ R.slots) (hcls : (mdN y).1.cls = ownN (ownY.getD y 0))
    (hE : eB (ownY.getD y 0) ((mdN y).1.name == "<init>") (mdN y).2.2.1 pc (.iushr) len ax = true) (hd : decode (mdN y).2.1 pc = .ok (.iushr, len)) (hln : lnB (.iushr) len = true)
    (hs : stepQ (gX G) rk (.iushr) len ax pc L st S h = some (.inl (pc2, L2, st2, S2, h2))) (k : WC G p l e R s m args below meth c Q y pc2 L2 st2 S2 h2 cells2 slots2) : WC G p l e R s m args below meth c Q y pc L st S h cells slots := by
  have hln : len = lnI (.iushr) := by simpa [lnB] using hln
  subst hln
  unfold stepQ stepK at hs
  dsimp only at hs
  obtain ⟨a, b, r, rfl, ht⟩ := pII_some hs
  cases ht
  simp only [Nat.sub_self, Nat.add_zero] at hc2 hs2
  subst hc2; subst hs2
  exact s_iushr hd F k
theorem q_idiv {G : GG} {p : Program} {l : Launch} {e : Env} {R : Room} {s : State} {m : MethodId} {args : Array Value} {below : List Frame} {meth : Method} {c : Code} {Q : State → Prop} {y pc cells slots cells2 slots2 : Nat} {L L2 : Lv} {st st2 : List AV} {S S2 : Sh} {h h2 : Mem} {rk len pc2 : Nat} {ax : Nat × Nat × Nat × Int} (F : XFC G p s m args meth c y R) (K : LK) (hz : s.heap.size + cells = gz G + (S.length - 1)) (hc2 : cells2 = cells + (S2.length - S.length)) (hs2 : slots2 = slots + (slt S2 - slt S)) (hr1 : cells2 ≤ R.cells) (hr2 : slots2 ≤ R.slots) (hcls : (mdN y).1.cls = ownN (ownY.getD y 0))
    (hE : eB (ownY.getD y 0) ((mdN y).1.name == "<init>") (mdN y).2.2.1 pc (.idiv) len ax = true) (hd : decode (mdN y).2.1 pc = .ok (.idiv, len)) (hln : lnB (.idiv) len = true)
    (hs : stepQ (gX G) rk (.idiv) len ax pc L st S h = some (.inl (pc2, L2, st2, S2, h2))) (k : WC G p l e R s m args below meth c Q y pc2 L2 st2 S2 h2 cells2 slots2) : WC G p l e R s m args below meth c Q y pc L st S h cells slots := by
  have hln : len = lnI (.idiv) := by simpa [lnB] using hln
  subst hln
  unfold stepQ stepK at hs
  dsimp only at hs
  obtain ⟨a, b, r, rfl, ht⟩ := pII_some hs
  split at ht
  case isTrue => cases ht
  next hne =>
  cases ht
  simp only [Nat.sub_self, Nat.add_zero] at hc2 hs2
  subst hc2; subst hs2
  exact s_idiv hne hd F k
theorem q_irem {G : GG} {p : Program} {l : Launch} {e : Env} {R : Room} {s : State} {m : MethodId} {args : Array Value} {below : List Frame} {meth : Method} {c : Code} {Q : State → Prop} {y pc cells slots cells2 slots2 : Nat} {L L2 : Lv} {st st2 : List AV} {S S2 : Sh} {h h2 : Mem} {rk len pc2 : Nat} {ax : Nat × Nat × Nat × Int} (F : XFC G p s m args meth c y R) (K : LK) (hz : s.heap.size + cells = gz G + (S.length - 1)) (hc2 : cells2 = cells + (S2.length - S.length)) (hs2 : slots2 = slots + (slt S2 - slt S)) (hr1 : cells2 ≤ R.cells) (hr2 : slots2 ≤ R.slots) (hcls : (mdN y).1.cls = ownN (ownY.getD y 0))
    (hE : eB (ownY.getD y 0) ((mdN y).1.name == "<init>") (mdN y).2.2.1 pc (.irem) len ax = true) (hd : decode (mdN y).2.1 pc = .ok (.irem, len)) (hln : lnB (.irem) len = true)
    (hs : stepQ (gX G) rk (.irem) len ax pc L st S h = some (.inl (pc2, L2, st2, S2, h2))) (k : WC G p l e R s m args below meth c Q y pc2 L2 st2 S2 h2 cells2 slots2) : WC G p l e R s m args below meth c Q y pc L st S h cells slots := by
  have hln : len = lnI (.irem) := by simpa [lnB] using hln
  subst hln
  unfold stepQ stepK at hs
  dsimp only at hs
  obtain ⟨a, b, r, rfl, ht⟩ := pII_some hs
  split at ht
  case isTrue => cases ht
  next hne =>
  cases ht
  simp only [Nat.sub_self, Nat.add_zero] at hc2 hs2
  subst hc2; subst hs2
  exact s_irem hne hd F k
theorem q_ldiv {G : GG} {p : Program} {l : Launch} {e : Env} {R : Room} {s : State} {m : MethodId} {args : Array Value} {below : List Frame} {meth : Method} {c : Code} {Q : State → Prop} {y pc cells slots cells2 slots2 : Nat} {L L2 : Lv} {st st2 : List AV} {S S2 : Sh} {h h2 : Mem} {rk len pc2 : Nat} {ax : Nat × Nat × Nat × Int} (F : XFC G p s m args meth c y R) (K : LK) (hz : s.heap.size + cells = gz G + (S.length - 1)) (hc2 : cells2 = cells + (S2.length - S.length)) (hs2 : slots2 = slots + (slt S2 - slt S)) (hr1 : cells2 ≤ R.cells) (hr2 : slots2 ≤ R.slots) (hcls : (mdN y).1.cls = ownN (ownY.getD y 0))
    (hE : eB (ownY.getD y 0) ((mdN y).1.name == "<init>") (mdN y).2.2.1 pc (.ldiv) len ax = true) (hd : decode (mdN y).2.1 pc = .ok (.ldiv, len)) (hln : lnB (.ldiv) len = true)
    (hs : stepQ (gX G) rk (.ldiv) len ax pc L st S h = some (.inl (pc2, L2, st2, S2, h2))) (k : WC G p l e R s m args below meth c Q y pc2 L2 st2 S2 h2 cells2 slots2) : WC G p l e R s m args below meth c Q y pc L st S h cells slots := by
  have hln : len = lnI (.ldiv) := by simpa [lnB] using hln
  subst hln
  unfold stepQ stepK at hs
  dsimp only at hs
  obtain ⟨a, b, r, rfl, ht⟩ := pJJ_some hs
  split at ht
  case isTrue => cases ht
  next hne =>
  cases ht
  simp only [Nat.sub_self, Nat.add_zero] at hc2 hs2
  subst hc2; subst hs2
  exact s_ldiv hne hd F k
theorem q_lrem {G : GG} {p : Program} {l : Launch} {e : Env} {R : Room} {s : State} {m : MethodId} {args : Array Value} {below : List Frame} {meth : Method} {c : Code} {Q : State → Prop} {y pc cells slots cells2 slots2 : Nat} {L L2 : Lv} {st st2 : List AV} {S S2 : Sh} {h h2 : Mem} {rk len pc2 : Nat} {ax : Nat × Nat × Nat × Int} (F : XFC G p s m args meth c y R) (K : LK) (hz : s.heap.size + cells = gz G + (S.length - 1)) (hc2 : cells2 = cells + (S2.length - S.length)) (hs2 : slots2 = slots + (slt S2 - slt S)) (hr1 : cells2 ≤ R.cells) (hr2 : slots2 ≤ R.slots) (hcls : (mdN y).1.cls = ownN (ownY.getD y 0))
    (hE : eB (ownY.getD y 0) ((mdN y).1.name == "<init>") (mdN y).2.2.1 pc (.lrem) len ax = true) (hd : decode (mdN y).2.1 pc = .ok (.lrem, len)) (hln : lnB (.lrem) len = true)
    (hs : stepQ (gX G) rk (.lrem) len ax pc L st S h = some (.inl (pc2, L2, st2, S2, h2))) (k : WC G p l e R s m args below meth c Q y pc2 L2 st2 S2 h2 cells2 slots2) : WC G p l e R s m args below meth c Q y pc L st S h cells slots := by
  have hln : len = lnI (.lrem) := by simpa [lnB] using hln
  subst hln
  unfold stepQ stepK at hs
  dsimp only at hs
  obtain ⟨a, b, r, rfl, ht⟩ := pJJ_some hs
  split at ht
  case isTrue => cases ht
  next hne =>
  cases ht
  simp only [Nat.sub_self, Nat.add_zero] at hc2 hs2
  subst hc2; subst hs2
  exact s_lrem hne hd F k
theorem q_ladd {G : GG} {p : Program} {l : Launch} {e : Env} {R : Room} {s : State} {m : MethodId} {args : Array Value} {below : List Frame} {meth : Method} {c : Code} {Q : State → Prop} {y pc cells slots cells2 slots2 : Nat} {L L2 : Lv} {st st2 : List AV} {S S2 : Sh} {h h2 : Mem} {rk len pc2 : Nat} {ax : Nat × Nat × Nat × Int} (F : XFC G p s m args meth c y R) (K : LK) (hz : s.heap.size + cells = gz G + (S.length - 1)) (hc2 : cells2 = cells + (S2.length - S.length)) (hs2 : slots2 = slots + (slt S2 - slt S)) (hr1 : cells2 ≤ R.cells) (hr2 : slots2 ≤ R.slots) (hcls : (mdN y).1.cls = ownN (ownY.getD y 0))
    (hE : eB (ownY.getD y 0) ((mdN y).1.name == "<init>") (mdN y).2.2.1 pc (.ladd) len ax = true) (hd : decode (mdN y).2.1 pc = .ok (.ladd, len)) (hln : lnB (.ladd) len = true)
    (hs : stepQ (gX G) rk (.ladd) len ax pc L st S h = some (.inl (pc2, L2, st2, S2, h2))) (k : WC G p l e R s m args below meth c Q y pc2 L2 st2 S2 h2 cells2 slots2) : WC G p l e R s m args below meth c Q y pc L st S h cells slots := by
  have hln : len = lnI (.ladd) := by simpa [lnB] using hln
  subst hln
  unfold stepQ stepK at hs
  dsimp only at hs
  obtain ⟨a, b, r, rfl, ht⟩ := pJJ_some hs
  cases ht
  simp only [Nat.sub_self, Nat.add_zero] at hc2 hs2
  subst hc2; subst hs2
  exact s_ladd hd F k
theorem q_lsub {G : GG} {p : Program} {l : Launch} {e : Env} {R : Room} {s : State} {m : MethodId} {args : Array Value} {below : List Frame} {meth : Method} {c : Code} {Q : State → Prop} {y pc cells slots cells2 slots2 : Nat} {L L2 : Lv} {st st2 : List AV} {S S2 : Sh} {h h2 : Mem} {rk len pc2 : Nat} {ax : Nat × Nat × Nat × Int} (F : XFC G p s m args meth c y R) (K : LK) (hz : s.heap.size + cells = gz G + (S.length - 1)) (hc2 : cells2 = cells + (S2.length - S.length)) (hs2 : slots2 = slots + (slt S2 - slt S)) (hr1 : cells2 ≤ R.cells) (hr2 : slots2 ≤ R.slots) (hcls : (mdN y).1.cls = ownN (ownY.getD y 0))
    (hE : eB (ownY.getD y 0) ((mdN y).1.name == "<init>") (mdN y).2.2.1 pc (.lsub) len ax = true) (hd : decode (mdN y).2.1 pc = .ok (.lsub, len)) (hln : lnB (.lsub) len = true)
    (hs : stepQ (gX G) rk (.lsub) len ax pc L st S h = some (.inl (pc2, L2, st2, S2, h2))) (k : WC G p l e R s m args below meth c Q y pc2 L2 st2 S2 h2 cells2 slots2) : WC G p l e R s m args below meth c Q y pc L st S h cells slots := by
  have hln : len = lnI (.lsub) := by simpa [lnB] using hln
  subst hln
  unfold stepQ stepK at hs
  dsimp only at hs
  obtain ⟨a, b, r, rfl, ht⟩ := pJJ_some hs
  cases ht
  simp only [Nat.sub_self, Nat.add_zero] at hc2 hs2
  subst hc2; subst hs2
  exact s_lsub hd F k
theorem q_lmul {G : GG} {p : Program} {l : Launch} {e : Env} {R : Room} {s : State} {m : MethodId} {args : Array Value} {below : List Frame} {meth : Method} {c : Code} {Q : State → Prop} {y pc cells slots cells2 slots2 : Nat} {L L2 : Lv} {st st2 : List AV} {S S2 : Sh} {h h2 : Mem} {rk len pc2 : Nat} {ax : Nat × Nat × Nat × Int} (F : XFC G p s m args meth c y R) (K : LK) (hz : s.heap.size + cells = gz G + (S.length - 1)) (hc2 : cells2 = cells + (S2.length - S.length)) (hs2 : slots2 = slots + (slt S2 - slt S)) (hr1 : cells2 ≤ R.cells) (hr2 : slots2 ≤ R.slots) (hcls : (mdN y).1.cls = ownN (ownY.getD y 0))
    (hE : eB (ownY.getD y 0) ((mdN y).1.name == "<init>") (mdN y).2.2.1 pc (.lmul) len ax = true) (hd : decode (mdN y).2.1 pc = .ok (.lmul, len)) (hln : lnB (.lmul) len = true)
    (hs : stepQ (gX G) rk (.lmul) len ax pc L st S h = some (.inl (pc2, L2, st2, S2, h2))) (k : WC G p l e R s m args below meth c Q y pc2 L2 st2 S2 h2 cells2 slots2) : WC G p l e R s m args below meth c Q y pc L st S h cells slots := by
  have hln : len = lnI (.lmul) := by simpa [lnB] using hln
  subst hln
  unfold stepQ stepK at hs
  dsimp only at hs
  obtain ⟨a, b, r, rfl, ht⟩ := pJJ_some hs
  cases ht
  simp only [Nat.sub_self, Nat.add_zero] at hc2 hs2
  subst hc2; subst hs2
  exact s_lmul hd F k
theorem q_land {G : GG} {p : Program} {l : Launch} {e : Env} {R : Room} {s : State} {m : MethodId} {args : Array Value} {below : List Frame} {meth : Method} {c : Code} {Q : State → Prop} {y pc cells slots cells2 slots2 : Nat} {L L2 : Lv} {st st2 : List AV} {S S2 : Sh} {h h2 : Mem} {rk len pc2 : Nat} {ax : Nat × Nat × Nat × Int} (F : XFC G p s m args meth c y R) (K : LK) (hz : s.heap.size + cells = gz G + (S.length - 1)) (hc2 : cells2 = cells + (S2.length - S.length)) (hs2 : slots2 = slots + (slt S2 - slt S)) (hr1 : cells2 ≤ R.cells) (hr2 : slots2 ≤ R.slots) (hcls : (mdN y).1.cls = ownN (ownY.getD y 0))
    (hE : eB (ownY.getD y 0) ((mdN y).1.name == "<init>") (mdN y).2.2.1 pc (.land) len ax = true) (hd : decode (mdN y).2.1 pc = .ok (.land, len)) (hln : lnB (.land) len = true)
    (hs : stepQ (gX G) rk (.land) len ax pc L st S h = some (.inl (pc2, L2, st2, S2, h2))) (k : WC G p l e R s m args below meth c Q y pc2 L2 st2 S2 h2 cells2 slots2) : WC G p l e R s m args below meth c Q y pc L st S h cells slots := by
  have hln : len = lnI (.land) := by simpa [lnB] using hln
  subst hln
  unfold stepQ stepK at hs
  dsimp only at hs
  obtain ⟨a, b, r, rfl, ht⟩ := pJJ_some hs
  cases ht
  simp only [Nat.sub_self, Nat.add_zero] at hc2 hs2
  subst hc2; subst hs2
  exact s_land hd F k
theorem q_lor {G : GG} {p : Program} {l : Launch} {e : Env} {R : Room} {s : State} {m : MethodId} {args : Array Value} {below : List Frame} {meth : Method} {c : Code} {Q : State → Prop} {y pc cells slots cells2 slots2 : Nat} {L L2 : Lv} {st st2 : List AV} {S S2 : Sh} {h h2 : Mem} {rk len pc2 : Nat} {ax : Nat × Nat × Nat × Int} (F : XFC G p s m args meth c y R) (K : LK) (hz : s.heap.size + cells = gz G + (S.length - 1)) (hc2 : cells2 = cells + (S2.length - S.length)) (hs2 : slots2 = slots + (slt S2 - slt S)) (hr1 : cells2 ≤ R.cells) (hr2 : slots2 ≤ R.slots) (hcls : (mdN y).1.cls = ownN (ownY.getD y 0))
    (hE : eB (ownY.getD y 0) ((mdN y).1.name == "<init>") (mdN y).2.2.1 pc (.lor) len ax = true) (hd : decode (mdN y).2.1 pc = .ok (.lor, len)) (hln : lnB (.lor) len = true)
    (hs : stepQ (gX G) rk (.lor) len ax pc L st S h = some (.inl (pc2, L2, st2, S2, h2))) (k : WC G p l e R s m args below meth c Q y pc2 L2 st2 S2 h2 cells2 slots2) : WC G p l e R s m args below meth c Q y pc L st S h cells slots := by
  have hln : len = lnI (.lor) := by simpa [lnB] using hln
  subst hln
  unfold stepQ stepK at hs
  dsimp only at hs
  obtain ⟨a, b, r, rfl, ht⟩ := pJJ_some hs
  cases ht
  simp only [Nat.sub_self, Nat.add_zero] at hc2 hs2
  subst hc2; subst hs2
  exact s_lor hd F k
theorem q_lcmp {G : GG} {p : Program} {l : Launch} {e : Env} {R : Room} {s : State} {m : MethodId} {args : Array Value} {below : List Frame} {meth : Method} {c : Code} {Q : State → Prop} {y pc cells slots cells2 slots2 : Nat} {L L2 : Lv} {st st2 : List AV} {S S2 : Sh} {h h2 : Mem} {rk len pc2 : Nat} {ax : Nat × Nat × Nat × Int} (F : XFC G p s m args meth c y R) (K : LK) (hz : s.heap.size + cells = gz G + (S.length - 1)) (hc2 : cells2 = cells + (S2.length - S.length)) (hs2 : slots2 = slots + (slt S2 - slt S)) (hr1 : cells2 ≤ R.cells) (hr2 : slots2 ≤ R.slots) (hcls : (mdN y).1.cls = ownN (ownY.getD y 0))
    (hE : eB (ownY.getD y 0) ((mdN y).1.name == "<init>") (mdN y).2.2.1 pc (.lcmp) len ax = true) (hd : decode (mdN y).2.1 pc = .ok (.lcmp, len)) (hln : lnB (.lcmp) len = true)
    (hs : stepQ (gX G) rk (.lcmp) len ax pc L st S h = some (.inl (pc2, L2, st2, S2, h2))) (k : WC G p l e R s m args below meth c Q y pc2 L2 st2 S2 h2 cells2 slots2) : WC G p l e R s m args below meth c Q y pc L st S h cells slots := by
  have hln : len = lnI (.lcmp) := by simpa [lnB] using hln
  subst hln
  unfold stepQ stepK at hs
  dsimp only at hs
  obtain ⟨a, b, r, rfl, ht⟩ := pJJ_some hs
  cases ht
  simp only [Nat.sub_self, Nat.add_zero] at hc2 hs2
  subst hc2; subst hs2
  exact s_lcmp hd F k
theorem q_lshl {G : GG} {p : Program} {l : Launch} {e : Env} {R : Room} {s : State} {m : MethodId} {args : Array Value} {below : List Frame} {meth : Method} {c : Code} {Q : State → Prop} {y pc cells slots cells2 slots2 : Nat} {L L2 : Lv} {st st2 : List AV} {S S2 : Sh} {h h2 : Mem} {rk len pc2 : Nat} {ax : Nat × Nat × Nat × Int} (F : XFC G p s m args meth c y R) (K : LK) (hz : s.heap.size + cells = gz G + (S.length - 1)) (hc2 : cells2 = cells + (S2.length - S.length)) (hs2 : slots2 = slots + (slt S2 - slt S)) (hr1 : cells2 ≤ R.cells) (hr2 : slots2 ≤ R.slots) (hcls : (mdN y).1.cls = ownN (ownY.getD y 0))
    (hE : eB (ownY.getD y 0) ((mdN y).1.name == "<init>") (mdN y).2.2.1 pc (.lshl) len ax = true) (hd : decode (mdN y).2.1 pc = .ok (.lshl, len)) (hln : lnB (.lshl) len = true)
    (hs : stepQ (gX G) rk (.lshl) len ax pc L st S h = some (.inl (pc2, L2, st2, S2, h2))) (k : WC G p l e R s m args below meth c Q y pc2 L2 st2 S2 h2 cells2 slots2) : WC G p l e R s m args below meth c Q y pc L st S h cells slots := by
  have hln : len = lnI (.lshl) := by simpa [lnB] using hln
  subst hln
  unfold stepQ stepK at hs
  dsimp only at hs
  obtain ⟨a, b, r, rfl, ht⟩ := pJI_some hs
  cases ht
  simp only [Nat.sub_self, Nat.add_zero] at hc2 hs2
  subst hc2; subst hs2
  exact s_lshl hd F k
theorem q_lshr {G : GG} {p : Program} {l : Launch} {e : Env} {R : Room} {s : State} {m : MethodId} {args : Array Value} {below : List Frame} {meth : Method} {c : Code} {Q : State → Prop} {y pc cells slots cells2 slots2 : Nat} {L L2 : Lv} {st st2 : List AV} {S S2 : Sh} {h h2 : Mem} {rk len pc2 : Nat} {ax : Nat × Nat × Nat × Int} (F : XFC G p s m args meth c y R) (K : LK) (hz : s.heap.size + cells = gz G + (S.length - 1)) (hc2 : cells2 = cells + (S2.length - S.length)) (hs2 : slots2 = slots + (slt S2 - slt S)) (hr1 : cells2 ≤ R.cells) (hr2 : slots2 ≤ R.slots) (hcls : (mdN y).1.cls = ownN (ownY.getD y 0))
    (hE : eB (ownY.getD y 0) ((mdN y).1.name == "<init>") (mdN y).2.2.1 pc (.lshr) len ax = true) (hd : decode (mdN y).2.1 pc = .ok (.lshr, len)) (hln : lnB (.lshr) len = true)
    (hs : stepQ (gX G) rk (.lshr) len ax pc L st S h = some (.inl (pc2, L2, st2, S2, h2))) (k : WC G p l e R s m args below meth c Q y pc2 L2 st2 S2 h2 cells2 slots2) : WC G p l e R s m args below meth c Q y pc L st S h cells slots := by
  have hln : len = lnI (.lshr) := by simpa [lnB] using hln
  subst hln
  unfold stepQ stepK at hs
  dsimp only at hs
  obtain ⟨a, b, r, rfl, ht⟩ := pJI_some hs
  cases ht
  simp only [Nat.sub_self, Nat.add_zero] at hc2 hs2
  subst hc2; subst hs2
  exact s_lshr hd F k
theorem q_ineg {G : GG} {p : Program} {l : Launch} {e : Env} {R : Room} {s : State} {m : MethodId} {args : Array Value} {below : List Frame} {meth : Method} {c : Code} {Q : State → Prop} {y pc cells slots cells2 slots2 : Nat} {L L2 : Lv} {st st2 : List AV} {S S2 : Sh} {h h2 : Mem} {rk len pc2 : Nat} {ax : Nat × Nat × Nat × Int} (F : XFC G p s m args meth c y R) (K : LK) (hz : s.heap.size + cells = gz G + (S.length - 1)) (hc2 : cells2 = cells + (S2.length - S.length)) (hs2 : slots2 = slots + (slt S2 - slt S)) (hr1 : cells2 ≤ R.cells) (hr2 : slots2 ≤ R.slots) (hcls : (mdN y).1.cls = ownN (ownY.getD y 0))
    (hE : eB (ownY.getD y 0) ((mdN y).1.name == "<init>") (mdN y).2.2.1 pc (.ineg) len ax = true) (hd : decode (mdN y).2.1 pc = .ok (.ineg, len)) (hln : lnB (.ineg) len = true)
    (hs : stepQ (gX G) rk (.ineg) len ax pc L st S h = some (.inl (pc2, L2, st2, S2, h2))) (k : WC G p l e R s m args below meth c Q y pc2 L2 st2 S2 h2 cells2 slots2) : WC G p l e R s m args below meth c Q y pc L st S h cells slots := by
  have hln : len = lnI (.ineg) := by simpa [lnB] using hln
  subst hln
  unfold stepQ stepK at hs
  dsimp only at hs
  obtain ⟨a, r, rfl, ht⟩ := pI_some hs
  cases ht
  simp only [Nat.sub_self, Nat.add_zero] at hc2 hs2
  subst hc2; subst hs2
  exact s_ineg hd F k
theorem q_i2l {G : GG} {p : Program} {l : Launch} {e : Env} {R : Room} {s : State} {m : MethodId} {args : Array Value} {below : List Frame} {meth : Method} {c : Code} {Q : State → Prop} {y pc cells slots cells2 slots2 : Nat} {L L2 : Lv} {st st2 : List AV} {S S2 : Sh} {h h2 : Mem} {rk len pc2 : Nat} {ax : Nat × Nat × Nat × Int} (F : XFC G p s m args meth c y R) (K : LK) (hz : s.heap.size + cells = gz G + (S.length - 1)) (hc2 : cells2 = cells + (S2.length - S.length)) (hs2 : slots2 = slots + (slt S2 - slt S)) (hr1 : cells2 ≤ R.cells) (hr2 : slots2 ≤ R.slots) (hcls : (mdN y).1.cls = ownN (ownY.getD y 0))
    (hE : eB (ownY.getD y 0) ((mdN y).1.name == "<init>") (mdN y).2.2.1 pc (.i2l) len ax = true) (hd : decode (mdN y).2.1 pc = .ok (.i2l, len)) (hln : lnB (.i2l) len = true)
    (hs : stepQ (gX G) rk (.i2l) len ax pc L st S h = some (.inl (pc2, L2, st2, S2, h2))) (k : WC G p l e R s m args below meth c Q y pc2 L2 st2 S2 h2 cells2 slots2) : WC G p l e R s m args below meth c Q y pc L st S h cells slots := by
  have hln : len = lnI (.i2l) := by simpa [lnB] using hln
  subst hln
  unfold stepQ stepK at hs
  dsimp only at hs
  obtain ⟨a, r, rfl, ht⟩ := pI_some hs
  cases ht
  simp only [Nat.sub_self, Nat.add_zero] at hc2 hs2
  subst hc2; subst hs2
  exact s_i2l hd F k
theorem q_i2b {G : GG} {p : Program} {l : Launch} {e : Env} {R : Room} {s : State} {m : MethodId} {args : Array Value} {below : List Frame} {meth : Method} {c : Code} {Q : State → Prop} {y pc cells slots cells2 slots2 : Nat} {L L2 : Lv} {st st2 : List AV} {S S2 : Sh} {h h2 : Mem} {rk len pc2 : Nat} {ax : Nat × Nat × Nat × Int} (F : XFC G p s m args meth c y R) (K : LK) (hz : s.heap.size + cells = gz G + (S.length - 1)) (hc2 : cells2 = cells + (S2.length - S.length)) (hs2 : slots2 = slots + (slt S2 - slt S)) (hr1 : cells2 ≤ R.cells) (hr2 : slots2 ≤ R.slots) (hcls : (mdN y).1.cls = ownN (ownY.getD y 0))
    (hE : eB (ownY.getD y 0) ((mdN y).1.name == "<init>") (mdN y).2.2.1 pc (.i2b) len ax = true) (hd : decode (mdN y).2.1 pc = .ok (.i2b, len)) (hln : lnB (.i2b) len = true)
    (hs : stepQ (gX G) rk (.i2b) len ax pc L st S h = some (.inl (pc2, L2, st2, S2, h2))) (k : WC G p l e R s m args below meth c Q y pc2 L2 st2 S2 h2 cells2 slots2) : WC G p l e R s m args below meth c Q y pc L st S h cells slots := by
  have hln : len = lnI (.i2b) := by simpa [lnB] using hln
  subst hln
  unfold stepQ stepK at hs
  dsimp only at hs
  obtain ⟨a, r, rfl, ht⟩ := pI_some hs
  cases ht
  simp only [Nat.sub_self, Nat.add_zero] at hc2 hs2
  subst hc2; subst hs2
  exact s_i2b hd F k
theorem q_i2s {G : GG} {p : Program} {l : Launch} {e : Env} {R : Room} {s : State} {m : MethodId} {args : Array Value} {below : List Frame} {meth : Method} {c : Code} {Q : State → Prop} {y pc cells slots cells2 slots2 : Nat} {L L2 : Lv} {st st2 : List AV} {S S2 : Sh} {h h2 : Mem} {rk len pc2 : Nat} {ax : Nat × Nat × Nat × Int} (F : XFC G p s m args meth c y R) (K : LK) (hz : s.heap.size + cells = gz G + (S.length - 1)) (hc2 : cells2 = cells + (S2.length - S.length)) (hs2 : slots2 = slots + (slt S2 - slt S)) (hr1 : cells2 ≤ R.cells) (hr2 : slots2 ≤ R.slots) (hcls : (mdN y).1.cls = ownN (ownY.getD y 0))
    (hE : eB (ownY.getD y 0) ((mdN y).1.name == "<init>") (mdN y).2.2.1 pc (.i2s) len ax = true) (hd : decode (mdN y).2.1 pc = .ok (.i2s, len)) (hln : lnB (.i2s) len = true)
    (hs : stepQ (gX G) rk (.i2s) len ax pc L st S h = some (.inl (pc2, L2, st2, S2, h2))) (k : WC G p l e R s m args below meth c Q y pc2 L2 st2 S2 h2 cells2 slots2) : WC G p l e R s m args below meth c Q y pc L st S h cells slots := by
  have hln : len = lnI (.i2s) := by simpa [lnB] using hln
  subst hln
  unfold stepQ stepK at hs
  dsimp only at hs
  obtain ⟨a, r, rfl, ht⟩ := pI_some hs
  cases ht
  simp only [Nat.sub_self, Nat.add_zero] at hc2 hs2
  subst hc2; subst hs2
  exact s_i2s hd F k
theorem q_i2c {G : GG} {p : Program} {l : Launch} {e : Env} {R : Room} {s : State} {m : MethodId} {args : Array Value} {below : List Frame} {meth : Method} {c : Code} {Q : State → Prop} {y pc cells slots cells2 slots2 : Nat} {L L2 : Lv} {st st2 : List AV} {S S2 : Sh} {h h2 : Mem} {rk len pc2 : Nat} {ax : Nat × Nat × Nat × Int} (F : XFC G p s m args meth c y R) (K : LK) (hz : s.heap.size + cells = gz G + (S.length - 1)) (hc2 : cells2 = cells + (S2.length - S.length)) (hs2 : slots2 = slots + (slt S2 - slt S)) (hr1 : cells2 ≤ R.cells) (hr2 : slots2 ≤ R.slots) (hcls : (mdN y).1.cls = ownN (ownY.getD y 0))
    (hE : eB (ownY.getD y 0) ((mdN y).1.name == "<init>") (mdN y).2.2.1 pc (.i2c) len ax = true) (hd : decode (mdN y).2.1 pc = .ok (.i2c, len)) (hln : lnB (.i2c) len = true)
    (hs : stepQ (gX G) rk (.i2c) len ax pc L st S h = some (.inl (pc2, L2, st2, S2, h2))) (k : WC G p l e R s m args below meth c Q y pc2 L2 st2 S2 h2 cells2 slots2) : WC G p l e R s m args below meth c Q y pc L st S h cells slots := by
  have hln : len = lnI (.i2c) := by simpa [lnB] using hln
  subst hln
  unfold stepQ stepK at hs
  dsimp only at hs
  obtain ⟨a, r, rfl, ht⟩ := pI_some hs
  cases ht
  simp only [Nat.sub_self, Nat.add_zero] at hc2 hs2
  subst hc2; subst hs2
  exact s_i2c hd F k
theorem q_l2i {G : GG} {p : Program} {l : Launch} {e : Env} {R : Room} {s : State} {m : MethodId} {args : Array Value} {below : List Frame} {meth : Method} {c : Code} {Q : State → Prop} {y pc cells slots cells2 slots2 : Nat} {L L2 : Lv} {st st2 : List AV} {S S2 : Sh} {h h2 : Mem} {rk len pc2 : Nat} {ax : Nat × Nat × Nat × Int} (F : XFC G p s m args meth c y R) (K : LK) (hz : s.heap.size + cells = gz G + (S.length - 1)) (hc2 : cells2 = cells + (S2.length - S.length)) (hs2 : slots2 = slots + (slt S2 - slt S)) (hr1 : cells2 ≤ R.cells) (hr2 : slots2 ≤ R.slots) (hcls : (mdN y).1.cls = ownN (ownY.getD y 0))
    (hE : eB (ownY.getD y 0) ((mdN y).1.name == "<init>") (mdN y).2.2.1 pc (.l2i) len ax = true) (hd : decode (mdN y).2.1 pc = .ok (.l2i, len)) (hln : lnB (.l2i) len = true)
    (hs : stepQ (gX G) rk (.l2i) len ax pc L st S h = some (.inl (pc2, L2, st2, S2, h2))) (k : WC G p l e R s m args below meth c Q y pc2 L2 st2 S2 h2 cells2 slots2) : WC G p l e R s m args below meth c Q y pc L st S h cells slots := by
  have hln : len = lnI (.l2i) := by simpa [lnB] using hln
  subst hln
  unfold stepQ stepK at hs
  dsimp only at hs
  obtain ⟨a, r, rfl, ht⟩ := pJ_some hs
  cases ht
  simp only [Nat.sub_self, Nat.add_zero] at hc2 hs2
  subst hc2; subst hs2
  exact s_l2i hd F k
theorem q_goto {G : GG} {p : Program} {l : Launch} {e : Env} {R : Room} {s : State} {m : MethodId} {args : Array Value} {below : List Frame} {meth : Method} {c : Code} {Q : State → Prop} {y pc cells slots cells2 slots2 : Nat} {L L2 : Lv} {st st2 : List AV} {S S2 : Sh} {h h2 : Mem} {rk len pc2 : Nat} {ax : Nat × Nat × Nat × Int} {o : Int} (F : XFC G p s m args meth c y R) (K : LK) (hz : s.heap.size + cells = gz G + (S.length - 1)) (hc2 : cells2 = cells + (S2.length - S.length)) (hs2 : slots2 = slots + (slt S2 - slt S)) (hr1 : cells2 ≤ R.cells) (hr2 : slots2 ≤ R.slots) (hcls : (mdN y).1.cls = ownN (ownY.getD y 0))
    (hE : eB (ownY.getD y 0) ((mdN y).1.name == "<init>") (mdN y).2.2.1 pc (.goto o) len ax = true) (hd : decode (mdN y).2.1 pc = .ok (.goto o, len)) (hln : lnB (.goto o) len = true)
    (hs : stepQ (gX G) rk (.goto o) len ax pc L st S h = some (.inl (pc2, L2, st2, S2, h2))) (k : WC G p l e R s m args below meth c Q y pc2 L2 st2 S2 h2 cells2 slots2) : WC G p l e R s m args below meth c Q y pc L st S h cells slots := by
  have hln : len = lnI (.goto o) := by simpa [lnB] using hln
  subst hln
  unfold stepQ stepK at hs
  dsimp only at hs
  cases hs
  simp only [Nat.sub_self, Nat.add_zero] at hc2 hs2
  subst hc2; subst hs2
  exact s_goto (by simpa [eB, jB] using hE) hd F k
theorem q_if_eq {G : GG} {p : Program} {l : Launch} {e : Env} {R : Room} {s : State} {m : MethodId} {args : Array Value} {below : List Frame} {meth : Method} {c : Code} {Q : State → Prop} {y pc cells slots cells2 slots2 : Nat} {L L2 : Lv} {st st2 : List AV} {S S2 : Sh} {h h2 : Mem} {rk len pc2 : Nat} {ax : Nat × Nat × Nat × Int} {o : Int} (F : XFC G p s m args meth c y R) (K : LK) (hz : s.heap.size + cells = gz G + (S.length - 1)) (hc2 : cells2 = cells + (S2.length - S.length)) (hs2 : slots2 = slots + (slt S2 - slt S)) (hr1 : cells2 ≤ R.cells) (hr2 : slots2 ≤ R.slots) (hcls : (mdN y).1.cls = ownN (ownY.getD y 0))
    (hE : eB (ownY.getD y 0) ((mdN y).1.name == "<init>") (mdN y).2.2.1 pc (.ifCond .eq o) len ax = true) (hd : decode (mdN y).2.1 pc = .ok (.ifCond .eq o, len)) (hln : lnB (.ifCond .eq o) len = true)
    (hs : stepQ (gX G) rk (.ifCond .eq o) len ax pc L st S h = some (.inl (pc2, L2, st2, S2, h2))) (k : WC G p l e R s m args below meth c Q y pc2 L2 st2 S2 h2 cells2 slots2) : WC G p l e R s m args below meth c Q y pc L st S h cells slots := by
  have hln : len = lnI (.ifCond .eq o) := by simpa [lnB] using hln
  subst hln
  have hj : 0 ≤ (pc : Int) + o := by simpa [eB, jB] using hE
  unfold stepQ stepK at hs
  dsimp only at hs
  obtain ⟨a, r, rfl, ht⟩ := pI_some hs
  split at ht
  · next q =>
    cases ht
    simp only [Nat.sub_self, Nat.add_zero] at hc2 hs2
    subst hc2; subst hs2
    exact s_if_eq hj hd F (fun _ => k) (fun z => absurd q z)
  · next q =>
    cases ht
    simp only [Nat.sub_self, Nat.add_zero] at hc2 hs2
    subst hc2; subst hs2
    exact s_if_eq hj hd F (fun z => absurd z q) (fun _ => k)
theorem q_icmp_eq {G : GG} {p : Program} {l : Launch} {e : Env} {R : Room} {s : State} {m : MethodId} {args : Array Value} {below : List Frame} {meth : Method} {c : Code} {Q : State → Prop} {y pc cells slots cells2 slots2 : Nat} {L L2 : Lv} {st st2 : List AV} {S S2 : Sh} {h h2 : Mem} {rk len pc2 : Nat} {ax : Nat × Nat × Nat × Int} {o : Int} (F : XFC G p s m args meth c y R) (K : LK) (hz : s.heap.size + cells = gz G + (S.length - 1)) (hc2 : cells2 = cells + (S2.length - S.length)) (hs2 : slots2 = slots + (slt S2 - slt S)) (hr1 : cells2 ≤ R.cells) (hr2 : slots2 ≤ R.slots) (hcls : (mdN y).1.cls = ownN (ownY.getD y 0))
    (hE : eB (ownY.getD y 0) ((mdN y).1.name == "<init>") (mdN y).2.2.1 pc (.if_icmp .eq o) len ax = true) (hd : decode (mdN y).2.1 pc = .ok (.if_icmp .eq o, len)) (hln : lnB (.if_icmp .eq o) len = true)
    (hs : stepQ (gX G) rk (.if_icmp .eq o) len ax pc L st S h = some (.inl (pc2, L2, st2, S2, h2))) (k : WC G p l e R s m args below meth c Q y pc2 L2 st2 S2 h2 cells2 slots2) : WC G p l e R s m args below meth c Q y pc L st S h cells slots := by
  have hln : len = lnI (.if_icmp .eq o) := by simpa [lnB] using hln
  subst hln
  have hj : 0 ≤ (pc : Int) + o := by simpa [eB, jB] using hE
  unfold stepQ stepK at hs
  dsimp only at hs
  obtain ⟨a, b, r, rfl, ht⟩ := pII_some hs
  split at ht
  · next q =>
    cases ht
    simp only [Nat.sub_self, Nat.add_zero] at hc2 hs2
    subst hc2; subst hs2
    exact s_icmp_eq hj hd F (fun _ => k) (fun z => absurd q z)
  · next q =>
    cases ht
    simp only [Nat.sub_self, Nat.add_zero] at hc2 hs2
    subst hc2; subst hs2
    exact s_icmp_eq hj hd F (fun z => absurd z q) (fun _ => k)
theorem q_if_ne {G : GG} {p : Program} {l : Launch} {e : Env} {R : Room} {s : State} {m : MethodId} {args : Array Value} {below : List Frame} {meth : Method} {c : Code} {Q : State → Prop} {y pc cells slots cells2 slots2 : Nat} {L L2 : Lv} {st st2 : List AV} {S S2 : Sh} {h h2 : Mem} {rk len pc2 : Nat} {ax : Nat × Nat × Nat × Int} {o : Int} (F : XFC G p s m args meth c y R) (K : LK) (hz : s.heap.size + cells = gz G + (S.length - 1)) (hc2 : cells2 = cells + (S2.length - S.length)) (hs2 : slots2 = slots + (slt S2 - slt S)) (hr1 : cells2 ≤ R.cells) (hr2 : slots2 ≤ R.slots) (hcls : (mdN y).1.cls = ownN (ownY.getD y 0))
    (hE : eB (ownY.getD y 0) ((mdN y).1.name == "<init>") (mdN y).2.2.1 pc (.ifCond .ne o) len ax = true) (hd : decode (mdN y).2.1 pc = .ok (.ifCond .ne o, len)) (hln : lnB (.ifCond .ne o) len = true)
    (hs : stepQ (gX G) rk (.ifCond .ne o) len ax pc L st S h = some (.inl (pc2, L2, st2, S2, h2))) (k : WC G p l e R s m args below meth c Q y pc2 L2 st2 S2 h2 cells2 slots2) : WC G p l e R s m args below meth c Q y pc L st S h cells slots := by
  have hln : len = lnI (.ifCond .ne o) := by simpa [lnB] using hln
  subst hln
  have hj : 0 ≤ (pc : Int) + o := by simpa [eB, jB] using hE
  unfold stepQ stepK at hs
  dsimp only at hs
  obtain ⟨a, r, rfl, ht⟩ := pI_some hs
  split at ht
  · next q =>
    cases ht
    simp only [Nat.sub_self, Nat.add_zero] at hc2 hs2
    subst hc2; subst hs2
    exact s_if_ne hj hd F (fun z => absurd q z) (fun _ => k)
  · next q =>
    cases ht
    simp only [Nat.sub_self, Nat.add_zero] at hc2 hs2
    subst hc2; subst hs2
    exact s_if_ne hj hd F (fun _ => k) (fun z => absurd z q)
theorem q_icmp_ne {G : GG} {p : Program} {l : Launch} {e : Env} {R : Room} {s : State} {m : MethodId} {args : Array Value} {below : List Frame} {meth : Method} {c : Code} {Q : State → Prop} {y pc cells slots cells2 slots2 : Nat} {L L2 : Lv} {st st2 : List AV} {S S2 : Sh} {h h2 : Mem} {rk len pc2 : Nat} {ax : Nat × Nat × Nat × Int} {o : Int} (F : XFC G p s m args meth c y R) (K : LK) (hz : s.heap.size + cells = gz G + (S.length - 1)) (hc2 : cells2 = cells + (S2.length - S.length)) (hs2 : slots2 = slots + (slt S2 - slt S)) (hr1 : cells2 ≤ R.cells) (hr2 : slots2 ≤ R.slots) (hcls : (mdN y).1.cls = ownN (ownY.getD y 0))
    (hE : eB (ownY.getD y 0) ((mdN y).1.name == "<init>") (mdN y).2.2.1 pc (.if_icmp .ne o) len ax = true) (hd : decode (mdN y).2.1 pc = .ok (.if_icmp .ne o, len)) (hln : lnB (.if_icmp .ne o) len = true)
    (hs : stepQ (gX G) rk (.if_icmp .ne o) len ax pc L st S h = some (.inl (pc2, L2, st2, S2, h2))) (k : WC G p l e R s m args below meth c Q y pc2 L2 st2 S2 h2 cells2 slots2) : WC G p l e R s m args below meth c Q y pc L st S h cells slots := by
  have hln : len = lnI (.if_icmp .ne o) := by simpa [lnB] using hln
  subst hln
  have hj : 0 ≤ (pc : Int) + o := by simpa [eB, jB] using hE
  unfold stepQ stepK at hs
  dsimp only at hs
  obtain ⟨a, b, r, rfl, ht⟩ := pII_some hs
  split at ht
  · next q =>
    cases ht
    simp only [Nat.sub_self, Nat.add_zero] at hc2 hs2
    subst hc2; subst hs2
    exact s_icmp_ne hj hd F (fun z => absurd q z) (fun _ => k)
  · next q =>
    cases ht
    simp only [Nat.sub_self, Nat.add_zero] at hc2 hs2
    subst hc2; subst hs2
    exact s_icmp_ne hj hd F (fun _ => k) (fun z => absurd z q)
theorem q_if_lt {G : GG} {p : Program} {l : Launch} {e : Env} {R : Room} {s : State} {m : MethodId} {args : Array Value} {below : List Frame} {meth : Method} {c : Code} {Q : State → Prop} {y pc cells slots cells2 slots2 : Nat} {L L2 : Lv} {st st2 : List AV} {S S2 : Sh} {h h2 : Mem} {rk len pc2 : Nat} {ax : Nat × Nat × Nat × Int} {o : Int} (F : XFC G p s m args meth c y R) (K : LK) (hz : s.heap.size + cells = gz G + (S.length - 1)) (hc2 : cells2 = cells + (S2.length - S.length)) (hs2 : slots2 = slots + (slt S2 - slt S)) (hr1 : cells2 ≤ R.cells) (hr2 : slots2 ≤ R.slots) (hcls : (mdN y).1.cls = ownN (ownY.getD y 0))
    (hE : eB (ownY.getD y 0) ((mdN y).1.name == "<init>") (mdN y).2.2.1 pc (.ifCond .lt o) len ax = true) (hd : decode (mdN y).2.1 pc = .ok (.ifCond .lt o, len)) (hln : lnB (.ifCond .lt o) len = true)
    (hs : stepQ (gX G) rk (.ifCond .lt o) len ax pc L st S h = some (.inl (pc2, L2, st2, S2, h2))) (k : WC G p l e R s m args below meth c Q y pc2 L2 st2 S2 h2 cells2 slots2) : WC G p l e R s m args below meth c Q y pc L st S h cells slots := by
  have hln : len = lnI (.ifCond .lt o) := by simpa [lnB] using hln
  subst hln
  have hj : 0 ≤ (pc : Int) + o := by simpa [eB, jB] using hE
  unfold stepQ stepK at hs
  dsimp only at hs
  obtain ⟨a, r, rfl, ht⟩ := pI_some hs
  split at ht
  · next q =>
    cases ht
    simp only [Nat.sub_self, Nat.add_zero] at hc2 hs2
    subst hc2; subst hs2
    exact s_if_lt hj hd F (fun _ => k) (fun z => absurd q z)
  · next q =>
    cases ht
    simp only [Nat.sub_self, Nat.add_zero] at hc2 hs2
    subst hc2; subst hs2
    exact s_if_lt hj hd F (fun z => absurd z q) (fun _ => k)
theorem q_icmp_lt {G : GG} {p : Program} {l : Launch} {e : Env} {R : Room} {s : State} {m : MethodId} {args : Array Value} {below : List Frame} {meth : Method} {c : Code} {Q : State → Prop} {y pc cells slots cells2 slots2 : Nat} {L L2 : Lv} {st st2 : List AV} {S S2 : Sh} {h h2 : Mem} {rk len pc2 : Nat} {ax : Nat × Nat × Nat × Int} {o : Int} (F : XFC G p s m args meth c y R) (K : LK) (hz : s.heap.size + cells = gz G + (S.length - 1)) (hc2 : cells2 = cells + (S2.length - S.length)) (hs2 : slots2 = slots + (slt S2 - slt S)) (hr1 : cells2 ≤ R.cells) (hr2 : slots2 ≤ R.slots) (hcls : (mdN y).1.cls = ownN (ownY.getD y 0))
    (hE : eB (ownY.getD y 0) ((mdN y).1.name == "<init>") (mdN y).2.2.1 pc (.if_icmp .lt o) len ax = true) (hd : decode (mdN y).2.1 pc = .ok (.if_icmp .lt o, len)) (hln : lnB (.if_icmp .lt o) len = true)
    (hs : stepQ (gX G) rk (.if_icmp .lt o) len ax pc L st S h = some (.inl (pc2, L2, st2, S2, h2))) (k : WC G p l e R s m args below meth c Q y pc2 L2 st2 S2 h2 cells2 slots2) : WC G p l e R s m args below meth c Q y pc L st S h cells slots := by
  have hln : len = lnI (.if_icmp .lt o) := by simpa [lnB] using hln
  subst hln
  have hj : 0 ≤ (pc : Int) + o := by simpa [eB, jB] using hE
  unfold stepQ stepK at hs
  dsimp only at hs
  obtain ⟨a, b, r, rfl, ht⟩ := pII_some hs
  split at ht
  · next q =>
    cases ht
    simp only [Nat.sub_self, Nat.add_zero] at hc2 hs2
    subst hc2; subst hs2
    exact s_icmp_lt hj hd F (fun _ => k) (fun z => absurd q z)
  · next q =>
    cases ht
    simp only [Nat.sub_self, Nat.add_zero] at hc2 hs2
    subst hc2; subst hs2
    exact s_icmp_lt hj hd F (fun z => absurd z q) (fun _ => k)
theorem q_if_ge {G : GG} {p : Program} {l : Launch} {e : Env} {R : Room} {s : State} {m : MethodId} {args : Array Value} {below : List Frame} {meth : Method} {c : Code} {Q : State → Prop} {y pc cells slots cells2 slots2 : Nat} {L L2 : Lv} {st st2 : List AV} {S S2 : Sh} {h h2 : Mem} {rk len pc2 : Nat} {ax : Nat × Nat × Nat × Int} {o : Int} (F : XFC G p s m args meth c y R) (K : LK) (hz : s.heap.size + cells = gz G + (S.length - 1)) (hc2 : cells2 = cells + (S2.length - S.length)) (hs2 : slots2 = slots + (slt S2 - slt S)) (hr1 : cells2 ≤ R.cells) (hr2 : slots2 ≤ R.slots) (hcls : (mdN y).1.cls = ownN (ownY.getD y 0))
    (hE : eB (ownY.getD y 0) ((mdN y).1.name == "<init>") (mdN y).2.2.1 pc (.ifCond .ge o) len ax = true) (hd : decode (mdN y).2.1 pc = .ok (.ifCond .ge o, len)) (hln : lnB (.ifCond .ge o) len = true)
    (hs : stepQ (gX G) rk (.ifCond .ge o) len ax pc L st S h = some (.inl (pc2, L2, st2, S2, h2))) (k : WC G p l e R s m args below meth c Q y pc2 L2 st2 S2 h2 cells2 slots2) : WC G p l e R s m args below meth c Q y pc L st S h cells slots := by
  have hln : len = lnI (.ifCond .ge o) := by simpa [lnB] using hln
  subst hln
  have hj : 0 ≤ (pc : Int) + o := by simpa [eB, jB] using hE
  unfold stepQ stepK at hs
  dsimp only at hs
  obtain ⟨a, r, rfl, ht⟩ := pI_some hs
  split at ht
  · next q =>
    cases ht
    simp only [Nat.sub_self, Nat.add_zero] at hc2 hs2
    subst hc2; subst hs2
    exact s_if_ge hj hd F (fun z => absurd z (by omega)) (fun _ => k)
  · next q =>
    cases ht
    simp only [Nat.sub_self, Nat.add_zero] at hc2 hs2
    subst hc2; subst hs2
    exact s_if_ge hj hd F (fun _ => k) (fun z => absurd (by omega) z)
theorem q_icmp_ge {G : GG} {p : Program} {l : Launch} {e : Env} {R : Room} {s : State} {m : MethodId} {args : Array Value} {below : List Frame} {meth : Method} {c : Code} {Q : State → Prop} {y pc cells slots cells2 slots2 : Nat} {L L2 : Lv} {st st2 : List AV} {S S2 : Sh} {h h2 : Mem} {rk len pc2 : Nat} {ax : Nat × Nat × Nat × Int} {o : Int} (F : XFC G p s m args meth c y R) (K : LK) (hz : s.heap.size + cells = gz G + (S.length - 1)) (hc2 : cells2 = cells + (S2.length - S.length)) (hs2 : slots2 = slots + (slt S2 - slt S)) (hr1 : cells2 ≤ R.cells) (hr2 : slots2 ≤ R.slots) (hcls : (mdN y).1.cls = ownN (ownY.getD y 0))
    (hE : eB (ownY.getD y 0) ((mdN y).1.name == "<init>") (mdN y).2.2.1 pc (.if_icmp .ge o) len ax = true) (hd : decode (mdN y).2.1 pc = .ok (.if_icmp .ge o, len)) (hln : lnB (.if_icmp .ge o) len = true)
    (hs : stepQ (gX G) rk (.if_icmp .ge o) len ax pc L st S h = some (.inl (pc2, L2, st2, S2, h2))) (k : WC G p l e R s m args below meth c Q y pc2 L2 st2 S2 h2 cells2 slots2) : WC G p l e R s m args below meth c Q y pc L st S h cells slots := by
  have hln : len = lnI (.if_icmp .ge o) := by simpa [lnB] using hln
  subst hln
  have hj : 0 ≤ (pc : Int) + o := by simpa [eB, jB] using hE
  unfold stepQ stepK at hs
  dsimp only at hs
  obtain ⟨a, b, r, rfl, ht⟩ := pII_some hs
  split at ht
  · next q =>
    cases ht
    simp only [Nat.sub_self, Nat.add_zero] at hc2 hs2
    subst hc2; subst hs2
    exact s_icmp_ge hj hd F (fun z => absurd z (by omega)) (fun _ => k)
  · next q =>
    cases ht
    simp only [Nat.sub_self, Nat.add_zero] at hc2 hs2
    subst hc2; subst hs2
    exact s_icmp_ge hj hd F (fun _ => k) (fun z => absurd (by omega) z)
theorem q_if_gt {G : GG} {p : Program} {l : Launch} {e : Env} {R : Room} {s : State} {m : MethodId} {args : Array Value} {below : List Frame} {meth : Method} {c : Code} {Q : State → Prop} {y pc cells slots cells2 slots2 : Nat} {L L2 : Lv} {st st2 : List AV} {S S2 : Sh} {h h2 : Mem} {rk len pc2 : Nat} {ax : Nat × Nat × Nat × Int} {o : Int} (F : XFC G p s m args meth c y R) (K : LK) (hz : s.heap.size + cells = gz G + (S.length - 1)) (hc2 : cells2 = cells + (S2.length - S.length)) (hs2 : slots2 = slots + (slt S2 - slt S)) (hr1 : cells2 ≤ R.cells) (hr2 : slots2 ≤ R.slots) (hcls : (mdN y).1.cls = ownN (ownY.getD y 0))
    (hE : eB (ownY.getD y 0) ((mdN y).1.name == "<init>") (mdN y).2.2.1 pc (.ifCond .gt o) len ax = true) (hd : decode (mdN y).2.1 pc = .ok (.ifCond .gt o, len)) (hln : lnB (.ifCond .gt o) len = true)
    (hs : stepQ (gX G) rk (.ifCond .gt o) len ax pc L st S h = some (.inl (pc2, L2, st2, S2, h2))) (k : WC G p l e R s m args below meth c Q y pc2 L2 st2 S2 h2 cells2 slots2) : WC G p l e R s m args below meth c Q y pc L st S h cells slots := by
  have hln : len = lnI (.ifCond .gt o) := by simpa [lnB] using hln
  subst hln
  have hj : 0 ≤ (pc : Int) + o := by simpa [eB, jB] using hE
  unfold stepQ stepK at hs
  dsimp only at hs
  obtain ⟨a, r, rfl, ht⟩ := pI_some hs
  split at ht
  · next q =>
    cases ht
    simp only [Nat.sub_self, Nat.add_zero] at hc2 hs2
    subst hc2; subst hs2
    exact s_if_gt hj hd F (fun _ => k) (fun z => absurd q z)
  · next q =>
    cases ht
    simp only [Nat.sub_self, Nat.add_zero] at hc2 hs2
    subst hc2; subst hs2
    exact s_if_gt hj hd F (fun z => absurd z q) (fun _ => k)
theorem q_icmp_gt {G : GG} {p : Program} {l : Launch} {e : Env} {R : Room} {s : State} {m : MethodId} {args : Array Value} {below : List Frame} {meth : Method} {c : Code} {Q : State → Prop} {y pc cells slots cells2 slots2 : Nat} {L L2 : Lv} {st st2 : List AV} {S S2 : Sh} {h h2 : Mem} {rk len pc2 : Nat} {ax : Nat × Nat × Nat × Int} {o : Int} (F : XFC G p s m args meth c y R) (K : LK) (hz : s.heap.size + cells = gz G + (S.length - 1)) (hc2 : cells2 = cells + (S2.length - S.length)) (hs2 : slots2 = slots + (slt S2 - slt S)) (hr1 : cells2 ≤ R.cells) (hr2 : slots2 ≤ R.slots) (hcls : (mdN y).1.cls = ownN (ownY.getD y 0))
    (hE : eB (ownY.getD y 0) ((mdN y).1.name == "<init>") (mdN y).2.2.1 pc (.if_icmp .gt o) len ax = true) (hd : decode (mdN y).2.1 pc = .ok (.if_icmp .gt o, len)) (hln : lnB (.if_icmp .gt o) len = true)
    (hs : stepQ (gX G) rk (.if_icmp .gt o) len ax pc L st S h = some (.inl (pc2, L2, st2, S2, h2))) (k : WC G p l e R s m args below meth c Q y pc2 L2 st2 S2 h2 cells2 slots2) : WC G p l e R s m args below meth c Q y pc L st S h cells slots := by
  have hln : len = lnI (.if_icmp .gt o) := by simpa [lnB] using hln
  subst hln
  have hj : 0 ≤ (pc : Int) + o := by simpa [eB, jB] using hE
  unfold stepQ stepK at hs
  dsimp only at hs
  obtain ⟨a, b, r, rfl, ht⟩ := pII_some hs
  split at ht
  · next q =>
    cases ht
    simp only [Nat.sub_self, Nat.add_zero] at hc2 hs2
    subst hc2; subst hs2
    exact s_icmp_gt hj hd F (fun _ => k) (fun z => absurd q z)
  · next q =>
    cases ht
    simp only [Nat.sub_self, Nat.add_zero] at hc2 hs2
    subst hc2; subst hs2
    exact s_icmp_gt hj hd F (fun z => absurd z q) (fun _ => k)
theorem q_if_le {G : GG} {p : Program} {l : Launch} {e : Env} {R : Room} {s : State} {m : MethodId} {args : Array Value} {below : List Frame} {meth : Method} {c : Code} {Q : State → Prop} {y pc cells slots cells2 slots2 : Nat} {L L2 : Lv} {st st2 : List AV} {S S2 : Sh} {h h2 : Mem} {rk len pc2 : Nat} {ax : Nat × Nat × Nat × Int} {o : Int} (F : XFC G p s m args meth c y R) (K : LK) (hz : s.heap.size + cells = gz G + (S.length - 1)) (hc2 : cells2 = cells + (S2.length - S.length)) (hs2 : slots2 = slots + (slt S2 - slt S)) (hr1 : cells2 ≤ R.cells) (hr2 : slots2 ≤ R.slots) (hcls : (mdN y).1.cls = ownN (ownY.getD y 0))
    (hE : eB (ownY.getD y 0) ((mdN y).1.name == "<init>") (mdN y).2.2.1 pc (.ifCond .le o) len ax = true) (hd : decode (mdN y).2.1 pc = .ok (.ifCond .le o, len)) (hln : lnB (.ifCond .le o) len = true)
    (hs : stepQ (gX G) rk (.ifCond .le o) len ax pc L st S h = some (.inl (pc2, L2, st2, S2, h2))) (k : WC G p l e R s m args below meth c Q y pc2 L2 st2 S2 h2 cells2 slots2) : WC G p l e R s m args below meth c Q y pc L st S h cells slots := by
  have hln : len = lnI (.ifCond .le o) := by simpa [lnB] using hln
  subst hln
  have hj : 0 ≤ (pc : Int) + o := by simpa [eB, jB] using hE
  unfold stepQ stepK at hs
  dsimp only at hs
  obtain ⟨a, r, rfl, ht⟩ := pI_some hs
  split at ht
  · next q =>
    cases ht
    simp only [Nat.sub_self, Nat.add_zero] at hc2 hs2
    subst hc2; subst hs2
    exact s_if_le hj hd F (fun z => absurd z (by omega)) (fun _ => k)
  · next q =>
    cases ht
    simp only [Nat.sub_self, Nat.add_zero] at hc2 hs2
    subst hc2; subst hs2
    exact s_if_le hj hd F (fun _ => k) (fun z => absurd (by omega) z)
theorem q_icmp_le {G : GG} {p : Program} {l : Launch} {e : Env} {R : Room} {s : State} {m : MethodId} {args : Array Value} {below : List Frame} {meth : Method} {c : Code} {Q : State → Prop} {y pc cells slots cells2 slots2 : Nat} {L L2 : Lv} {st st2 : List AV} {S S2 : Sh} {h h2 : Mem} {rk len pc2 : Nat} {ax : Nat × Nat × Nat × Int} {o : Int} (F : XFC G p s m args meth c y R) (K : LK) (hz : s.heap.size + cells = gz G + (S.length - 1)) (hc2 : cells2 = cells + (S2.length - S.length)) (hs2 : slots2 = slots + (slt S2 - slt S)) (hr1 : cells2 ≤ R.cells) (hr2 : slots2 ≤ R.slots) (hcls : (mdN y).1.cls = ownN (ownY.getD y 0))
    (hE : eB (ownY.getD y 0) ((mdN y).1.name == "<init>") (mdN y).2.2.1 pc (.if_icmp .le o) len ax = true) (hd : decode (mdN y).2.1 pc = .ok (.if_icmp .le o, len)) (hln : lnB (.if_icmp .le o) len = true)
    (hs : stepQ (gX G) rk (.if_icmp .le o) len ax pc L st S h = some (.inl (pc2, L2, st2, S2, h2))) (k : WC G p l e R s m args below meth c Q y pc2 L2 st2 S2 h2 cells2 slots2) : WC G p l e R s m args below meth c Q y pc L st S h cells slots := by
  have hln : len = lnI (.if_icmp .le o) := by simpa [lnB] using hln
  subst hln
  have hj : 0 ≤ (pc : Int) + o := by simpa [eB, jB] using hE
  unfold stepQ stepK at hs
  dsimp only at hs
  obtain ⟨a, b, r, rfl, ht⟩ := pII_some hs
  split at ht
  · next q =>
    cases ht
    simp only [Nat.sub_self, Nat.add_zero] at hc2 hs2
    subst hc2; subst hs2
    exact s_icmp_le hj hd F (fun z => absurd z (by omega)) (fun _ => k)
  · next q =>
    cases ht
    simp only [Nat.sub_self, Nat.add_zero] at hc2 hs2
    subst hc2; subst hs2
    exact s_icmp_le hj hd F (fun _ => k) (fun z => absurd (by omega) z)
theorem q_tableswitch {G : GG} {p : Program} {l : Launch} {e : Env} {R : Room} {s : State} {m : MethodId} {args : Array Value} {below : List Frame} {meth : Method} {c : Code} {Q : State → Prop} {y pc cells slots cells2 slots2 : Nat} {L L2 : Lv} {st st2 : List AV} {S S2 : Sh} {h h2 : Mem} {rk len pc2 : Nat} {ax : Nat × Nat × Nat × Int} {dd lo hi : Int} {offs : Array Int} (F : XFC G p s m args meth c y R) (K : LK) (hz : s.heap.size + cells = gz G + (S.length - 1)) (hc2 : cells2 = cells + (S2.length - S.length)) (hs2 : slots2 = slots + (slt S2 - slt S)) (hr1 : cells2 ≤ R.cells) (hr2 : slots2 ≤ R.slots) (hcls : (mdN y).1.cls = ownN (ownY.getD y 0))
    (hE : eB (ownY.getD y 0) ((mdN y).1.name == "<init>") (mdN y).2.2.1 pc (.tableswitch dd lo hi offs) len ax = true) (hd : decode (mdN y).2.1 pc = .ok (.tableswitch dd lo hi offs, len)) (hln : lnB (.tableswitch dd lo hi offs) len = true)
    (hs : stepQ (gX G) rk (.tableswitch dd lo hi offs) len ax pc L st S h = some (.inl (pc2, L2, st2, S2, h2))) (k : WC G p l e R s m args below meth c Q y pc2 L2 st2 S2 h2 cells2 slots2) : WC G p l e R s m args below meth c Q y pc L st S h cells slots := by
  unfold stepQ stepK at hs
  dsimp only at hs
  obtain ⟨a, r, rfl, ht⟩ := pI_some hs
  split at ht
  case isFalse => cases ht
  next hl =>
  obtain ⟨o, h1, h3⟩ := tsw_some a (fun o => (some (.inl (tgt pc o, L, r, S, h)) : Option (Cfg ⊕ Cll ⊕ Res))) dd offs.toList lo
  rw [h1] at ht
  cases ht
  simp only [Nat.sub_self, Nat.add_zero] at hc2 hs2
  subst hc2; subst hs2
  simp only [eB, Bool.and_eq_true] at hE
  have hj : 0 ≤ (pc : Int) + o := by
    rcases h3 with ⟨-, rfl⟩ | ⟨-, -, h3⟩
    · simpa [jB] using hE.1
    · have := List.all_eq_true.mp hE.2 o (List.mem_of_getElem? h3)
      simpa [jB] using this
  refine s_table hj ?_ hd F k
  rcases h3 with ⟨h3, h4⟩ | ⟨h3, h4, h5⟩
  · exact Or.inl ⟨by omega, h4⟩
  · refine Or.inr ⟨by omega, by omega, ?_⟩
    rw [← Array.getElem?_toList]
    exact h5
theorem q_lookupswitch {G : GG} {p : Program} {l : Launch} {e : Env} {R : Room} {s : State} {m : MethodId} {args : Array Value} {below : List Frame} {meth : Method} {c : Code} {Q : State → Prop} {y pc cells slots cells2 slots2 : Nat} {L L2 : Lv} {st st2 : List AV} {S S2 : Sh} {h h2 : Mem} {rk len pc2 : Nat} {ax : Nat × Nat × Nat × Int} {dd : Int} {ps : Array (Int × Int)} (F : XFC G p s m args meth c y R) (K : LK) (hz : s.heap.size + cells = gz G + (S.length - 1)) (hc2 : cells2 = cells + (S2.length - S.length)) (hs2 : slots2 = slots + (slt S2 - slt S)) (hr1 : cells2 ≤ R.cells) (hr2 : slots2 ≤ R.slots) (hcls : (mdN y).1.cls = ownN (ownY.getD y 0))
    (hE : eB (ownY.getD y 0) ((mdN y).1.name == "<init>") (mdN y).2.2.1 pc (.lookupswitch dd ps) len ax = true) (hd : decode (mdN y).2.1 pc = .ok (.lookupswitch dd ps, len)) (hln : lnB (.lookupswitch dd ps) len = true)
    (hs : stepQ (gX G) rk (.lookupswitch dd ps) len ax pc L st S h = some (.inl (pc2, L2, st2, S2, h2))) (k : WC G p l e R s m args below meth c Q y pc2 L2 st2 S2 h2 cells2 slots2) : WC G p l e R s m args below meth c Q y pc L st S h cells slots := by
  unfold stepQ stepK at hs
  dsimp only at hs
  obtain ⟨a, r, rfl, ht⟩ := pI_some hs
  obtain ⟨h1, h3⟩ := lsw_some a (fun o => (some (.inl (tgt pc o, L, r, S, h)) : Option (Cfg ⊕ Cll ⊕ Res))) dd ps.toList
  rw [h1] at ht
  cases ht
  simp only [Nat.sub_self, Nat.add_zero] at hc2 hs2
  subst hc2; subst hs2
  simp only [eB, Bool.and_eq_true] at hE
  have hj : 0 ≤ (pc : Int) + Op.lookupswitch.offset ps.toList dd a := by
    rcases h3 with h3 | ⟨q, h3, h4⟩
    · rw [h3]; simpa [jB] using hE.1.1
    · have := List.all_eq_true.mp hE.1.2 q h3
      rw [← h4]
      simpa [jB] using this
  exact s_lookup hj hE.2 rfl hd F k
theorem q_ldc {G : GG} {p : Program} {l : Launch} {e : Env} {R : Room} {s : State} {m : MethodId} {args : Array Value} {below : List Frame} {meth : Method} {c : Code} {Q : State → Prop} {y pc cells slots cells2 slots2 : Nat} {L L2 : Lv} {st st2 : List AV} {S S2 : Sh} {h h2 : Mem} {rk len pc2 : Nat} {ax : Nat × Nat × Nat × Int} {x : Nat} (F : XFC G p s m args meth c y R) (K : LK) (hz : s.heap.size + cells = gz G + (S.length - 1)) (hc2 : cells2 = cells + (S2.length - S.length)) (hs2 : slots2 = slots + (slt S2 - slt S)) (hr1 : cells2 ≤ R.cells) (hr2 : slots2 ≤ R.slots) (hcls : (mdN y).1.cls = ownN (ownY.getD y 0))
    (hE : eB (ownY.getD y 0) ((mdN y).1.name == "<init>") (mdN y).2.2.1 pc (.ldc x) len ax = true) (hd : decode (mdN y).2.1 pc = .ok (.ldc x, len)) (hln : lnB (.ldc x) len = true)
    (hs : stepQ (gX G) rk (.ldc x) len ax pc L st S h = some (.inl (pc2, L2, st2, S2, h2))) (k : WC G p l e R s m args below meth c Q y pc2 L2 st2 S2 h2 cells2 slots2) : WC G p l e R s m args below meth c Q y pc L st S h cells slots := by
  have hln : len = lnI (.ldc x) := by simpa [lnB] using hln
  subst hln
  unfold stepQ stepK at hs
  dsimp only at hs
  simp only [eB, Bool.and_eq_true, beq_iff_eq] at hE
  obtain ⟨-, hE⟩ := hE
  split at hs
  · next q =>
    cases hs
    simp only [Nat.sub_self, Nat.add_zero] at hc2 hs2
    subst hc2; subst hs2
    rw [if_pos q] at hE
    refine s_ldcS ?_ hd F k
    simp only [Bool.or_eq_true, Bool.and_eq_true, beq_iff_eq] at hE
    rcases hE with ⟨⟨h1, h3⟩, h4⟩ | ⟨⟨h1, h3⟩, h4⟩
    · exact Or.inl ⟨by rw [hcls, h1]; rfl, h3, h4⟩
    · exact Or.inr ⟨by rw [hcls, h1]; rfl, h3, h4⟩
  · next q =>
    cases hs
    simp only [Nat.sub_self, Nat.add_zero] at hc2 hs2
    subst hc2; subst hs2
    rw [if_neg q] at hE
    obtain ⟨f, h1, h3⟩ := List.any_eq_true.mp hE
    simp only [Bool.and_eq_true, beq_iff_eq] at h3
    obtain ⟨⟨h3, h4⟩, h5⟩ := h3
    have hk := K.2.2.1 f h1
    rw [h3, h4, h5, ← hcls] at hk
    exact s_ldcI hk.2 hk.1 hd F k
theorem q_ldc_w {G : GG} {p : Program} {l : Launch} {e : Env} {R : Room} {s : State} {m : MethodId} {args : Array Value} {below : List Frame} {meth : Method} {c : Code} {Q : State → Prop} {y pc cells slots cells2 slots2 : Nat} {L L2 : Lv} {st st2 : List AV} {S S2 : Sh} {h h2 : Mem} {rk len pc2 : Nat} {ax : Nat × Nat × Nat × Int} {x : Nat} (F : XFC G p s m args meth c y R) (K : LK) (hz : s.heap.size + cells = gz G + (S.length - 1)) (hc2 : cells2 = cells + (S2.length - S.length)) (hs2 : slots2 = slots + (slt S2 - slt S)) (hr1 : cells2 ≤ R.cells) (hr2 : slots2 ≤ R.slots) (hcls : (mdN y).1.cls = ownN (ownY.getD y 0))
    (hE : eB (ownY.getD y 0) ((mdN y).1.name == "<init>") (mdN y).2.2.1 pc (.ldc_w x) len ax = true) (hd : decode (mdN y).2.1 pc = .ok (.ldc_w x, len)) (hln : lnB (.ldc_w x) len = true)
    (hs : stepQ (gX G) rk (.ldc_w x) len ax pc L st S h = some (.inl (pc2, L2, st2, S2, h2))) (k : WC G p l e R s m args below meth c Q y pc2 L2 st2 S2 h2 cells2 slots2) : WC G p l e R s m args below meth c Q y pc L st S h cells slots := by
  have hln : len = lnI (.ldc_w x) := by simpa [lnB] using hln
  subst hln
  unfold stepQ stepK at hs
  dsimp only at hs
  simp only [eB, Bool.and_eq_true, beq_iff_eq, Bool.not_eq_true', beq_eq_false_iff_ne] at hE
  obtain ⟨⟨-, q⟩, hE⟩ := hE
  rw [if_neg q] at hs
  cases hs
  simp only [Nat.sub_self, Nat.add_zero] at hc2 hs2
  subst hc2; subst hs2
  obtain ⟨f, h1, h3⟩ := List.any_eq_true.mp hE
  simp only [Bool.and_eq_true, beq_iff_eq] at h3
  obtain ⟨⟨h3, h4⟩, h5⟩ := h3
  have hk := K.2.2.1 f h1
  rw [h3, h4, h5, ← hcls] at hk
  exact s_ldcW hk.2 hk.1 hd F k
theorem q_ldc2_w {G : GG} {p : Program} {l : Launch} {e : Env} {R : Room} {s : State} {m : MethodId} {args : Array Value} {below : List Frame} {meth : Method} {c : Code} {Q : State → Prop} {y pc cells slots cells2 slots2 : Nat} {L L2 : Lv} {st st2 : List AV} {S S2 : Sh} {h h2 : Mem} {rk len pc2 : Nat} {ax : Nat × Nat × Nat × Int} {x : Nat} (F : XFC G p s m args meth c y R) (K : LK) (hz : s.heap.size + cells = gz G + (S.length - 1)) (hc2 : cells2 = cells + (S2.length - S.length)) (hs2 : slots2 = slots + (slt S2 - slt S)) (hr1 : cells2 ≤ R.cells) (hr2 : slots2 ≤ R.slots) (hcls : (mdN y).1.cls = ownN (ownY.getD y 0))
    (hE : eB (ownY.getD y 0) ((mdN y).1.name == "<init>") (mdN y).2.2.1 pc (.ldc2_w x) len ax = true) (hd : decode (mdN y).2.1 pc = .ok (.ldc2_w x, len)) (hln : lnB (.ldc2_w x) len = true)
    (hs : stepQ (gX G) rk (.ldc2_w x) len ax pc L st S h = some (.inl (pc2, L2, st2, S2, h2))) (k : WC G p l e R s m args below meth c Q y pc2 L2 st2 S2 h2 cells2 slots2) : WC G p l e R s m args below meth c Q y pc L st S h cells slots := by
  have hln : len = lnI (.ldc2_w x) := by simpa [lnB] using hln
  subst hln
  unfold stepQ stepK at hs
  dsimp only at hs
  cases hs
  simp only [Nat.sub_self, Nat.add_zero] at hc2 hs2
  subst hc2; subst hs2
  obtain ⟨f, h1, h3⟩ := List.any_eq_true.mp hE
  simp only [Bool.and_eq_true, beq_iff_eq] at h3
  obtain ⟨⟨h3, h4⟩, h5⟩ := h3
  have hk := K.2.2.2.1 f h1
  rw [h3, h4, h5, ← hcls] at hk
  exact s_ldc2 hk.2 hk.1 hd F k
theorem q_getfield {G : GG} {p : Program} {l : Launch} {e : Env} {R : Room} {s : State} {m : MethodId} {args : Array Value} {below : List Frame} {meth : Method} {c : Code} {Q : State → Prop} {y pc cells slots cells2 slots2 : Nat} {L L2 : Lv} {st st2 : List AV} {S S2 : Sh} {h h2 : Mem} {rk len pc2 : Nat} {ax : Nat × Nat × Nat × Int} {x : Nat} (F : XFC G p s m args meth c y R) (K : LK) (hz : s.heap.size + cells = gz G + (S.length - 1)) (hc2 : cells2 = cells + (S2.length - S.length)) (hs2 : slots2 = slots + (slt S2 - slt S)) (hr1 : cells2 ≤ R.cells) (hr2 : slots2 ≤ R.slots) (hcls : (mdN y).1.cls = ownN (ownY.getD y 0))
    (hE : eB (ownY.getD y 0) ((mdN y).1.name == "<init>") (mdN y).2.2.1 pc (.getfield x) len ax = true) (hd : decode (mdN y).2.1 pc = .ok (.getfield x, len)) (hln : lnB (.getfield x) len = true)
    (hs : stepQ (gX G) rk (.getfield x) len ax pc L st S h = some (.inl (pc2, L2, st2, S2, h2))) (k : WC G p l e R s m args below meth c Q y pc2 L2 st2 S2 h2 cells2 slots2) : WC G p l e R s m args below meth c Q y pc L st S h cells slots := by
  have hln : len = lnI (.getfield x) := by simpa [lnB] using hln
  subst hln
  unfold stepQ stepK at hs
  dsimp only at hs
  obtain ⟨a, r, rfl, ht⟩ := pA_some hs
  split at ht
  · next q =>
    simp only [eB] at hE
    rw [if_pos q] at hE
    simp only [Bool.and_eq_true, Bool.or_eq_true, beq_iff_eq] at hE
    obtain ⟨h1, h3⟩ := hE
    have hc : (mdN y).1.cls = "java/lang/String" := by rw [hcls, h1]; rfl
    split at ht
    case isFalse => cases ht
    next ha =>
    rcases h3 with ⟨rfl, h4⟩ | ⟨rfl, h4⟩
    · rw [if_pos h4] at ht
      cases ht
      simp only [Nat.sub_self, Nat.add_zero] at hc2 hs2
      subst hc2; subst hs2
      exact s_getS (sl := 0) ha ⟨hc, Or.inl ⟨rfl, K.2.2.2.2.2.2.2.2.2.2.2.2.2.1⟩⟩ hd F k
    · rw [if_neg (by omega)] at ht
      cases ht
      simp only [Nat.sub_self, Nat.add_zero] at hc2 hs2
      subst hc2; subst hs2
      exact s_getS (sl := 1) ha ⟨hc, Or.inr ⟨by decide, K.2.2.2.2.2.2.2.2.2.2.2.2.2.2.1⟩⟩ hd F k
  · next q =>
    obtain ⟨v, hv, ht⟩ := xoK_some ht
    cases ht
    simp only [Nat.sub_self, Nat.add_zero] at hc2 hs2
    subst hc2; subst hs2
    simp only [eB] at hE
    rw [if_neg q] at hE
    simp only [Bool.and_eq_true, decide_eq_true_eq, beq_iff_eq] at hE
    obtain ⟨⟨⟨e1, e2⟩, e3⟩, e4⟩ := hE
    obtain ⟨f, g1, g2⟩ := List.any_eq_true.mp e2
    simp only [Bool.and_eq_true, beq_iff_eq] at g2
    obtain ⟨⟨⟨g2, g3⟩, g4⟩, g5⟩ := g2
    have hk := K.1 f g1
    rw [g2, g3, g4, g5, ← hcls] at hk
    unfold getf at hv
    split at hv
    case isFalse => cases hv
    next hkd =>
    cases hv
    rw [e4] at k
    exact s_getf e1 hkd e3 hk hd F k
theorem q_putfield {G : GG} {p : Program} {l : Launch} {e : Env} {R : Room} {s : State} {m : MethodId} {args : Array Value} {below : List Frame} {meth : Method} {c : Code} {Q : State → Prop} {y pc cells slots cells2 slots2 : Nat} {L L2 : Lv} {st st2 : List AV} {S S2 : Sh} {h h2 : Mem} {rk len pc2 : Nat} {ax : Nat × Nat × Nat × Int} {x : Nat} (F : XFC G p s m args meth c y R) (K : LK) (hz : s.heap.size + cells = gz G + (S.length - 1)) (hc2 : cells2 = cells + (S2.length - S.length)) (hs2 : slots2 = slots + (slt S2 - slt S)) (hr1 : cells2 ≤ R.cells) (hr2 : slots2 ≤ R.slots) (hcls : (mdN y).1.cls = ownN (ownY.getD y 0))
    (hE : eB (ownY.getD y 0) ((mdN y).1.name == "<init>") (mdN y).2.2.1 pc (.putfield x) len ax = true) (hd : decode (mdN y).2.1 pc = .ok (.putfield x, len)) (hln : lnB (.putfield x) len = true)
    (hs : stepQ (gX G) rk (.putfield x) len ax pc L st S h = some (.inl (pc2, L2, st2, S2, h2))) (k : WC G p l e R s m args below meth c Q y pc2 L2 st2 S2 h2 cells2 slots2) : WC G p l e R s m args below meth c Q y pc L st S h cells slots := by
  have hln : len = lnI (.putfield x) := by simpa [lnB] using hln
  subst hln
  unfold stepQ stepK at hs
  dsimp only at hs
  obtain ⟨v, a, r, rfl, ht⟩ := pVA_some hs
  obtain ⟨w, hw, ht⟩ := xoK_some ht
  obtain ⟨h3, hv, ht⟩ := xoK_some ht
  cases ht
  simp only [Nat.sub_self, Nat.add_zero] at hc2 hs2
  subst hc2; subst hs2
  simp only [eB, Bool.and_eq_true, decide_eq_true_eq, beq_iff_eq, Bool.or_eq_true, Bool.not_eq_true'] at hE
  obtain ⟨⟨⟨⟨e1, e2⟩, e3⟩, e4⟩, e5⟩ := hE
  obtain ⟨f, g1, g2⟩ := List.any_eq_true.mp e2
  simp only [Bool.and_eq_true, beq_iff_eq] at g2
  obtain ⟨⟨⟨g2, g3⟩, g4⟩, g5⟩ := g2
  have hk := K.1 f g1
  rw [g2, g3, g4, g5, ← hcls] at hk
  unfold putf at hv
  split at hv
  case isFalse => cases hv
  next hkd =>
  cases hv
  rw [e4] at hw
  refine s_putf e1 hkd e3 hk hw ?_ hd F k
  rcases e5 with e5 | ⟨e5, e6⟩
  · exact Or.inl e5
  · refine Or.inr ⟨e5, ?_⟩
    rw [hcls, ← e6]
    exact own_cl e1
theorem q_getstatic {G : GG} {p : Program} {l : Launch} {e : Env} {R : Room} {s : State} {m : MethodId} {args : Array Value} {below : List Frame} {meth : Method} {c : Code} {Q : State → Prop} {y pc cells slots cells2 slots2 : Nat} {L L2 : Lv} {st st2 : List AV} {S S2 : Sh} {h h2 : Mem} {rk len pc2 : Nat} {ax : Nat × Nat × Nat × Int} {x : Nat} (F : XFC G p s m args meth c y R) (K : LK) (hz : s.heap.size + cells = gz G + (S.length - 1)) (hc2 : cells2 = cells + (S2.length - S.length)) (hs2 : slots2 = slots + (slt S2 - slt S)) (hr1 : cells2 ≤ R.cells) (hr2 : slots2 ≤ R.slots) (hcls : (mdN y).1.cls = ownN (ownY.getD y 0))
    (hE : eB (ownY.getD y 0) ((mdN y).1.name == "<init>") (mdN y).2.2.1 pc (.getstatic x) len ax = true) (hd : decode (mdN y).2.1 pc = .ok (.getstatic x, len)) (hln : lnB (.getstatic x) len = true)
    (hs : stepQ (gX G) rk (.getstatic x) len ax pc L st S h = some (.inl (pc2, L2, st2, S2, h2))) (k : WC G p l e R s m args below meth c Q y pc2 L2 st2 S2 h2 cells2 slots2) : WC G p l e R s m args below meth c Q y pc L st S h cells slots := by
  have hln : len = lnI (.getstatic x) := by simpa [lnB] using hln
  subst hln
  have hg : gsOk (mdN y).1.cls x ax.1 ax.2.2.2 := by
    simp only [eB, Bool.or_eq_true, Bool.and_eq_true, beq_iff_eq] at hE
    rcases hE with ⟨e1, e2⟩ | ⟨e1, e2⟩
    · obtain ⟨f, g1, g2⟩ := List.any_eq_true.mp e1
      simp only [Bool.and_eq_true, beq_iff_eq] at g2
      obtain ⟨⟨g2, g3⟩, g4⟩ := g2
      have hk := K.2.2.2.2.2.1 f g1
      rw [g2, g3, g4, ← hcls] at hk
      refine Or.inl ⟨hk, ?_⟩
      rcases e2 with ⟨e2, (e3 | e3) | e3⟩ | ⟨e2, e3⟩
      · exact Or.inl ⟨e2, Or.inl e3⟩
      · exact Or.inl ⟨e2, Or.inr (Or.inl e3)⟩
      · exact Or.inl ⟨e2, Or.inr (Or.inr e3)⟩
      · exact Or.inr ⟨e2, e3⟩
    · refine Or.inr ⟨e1, ?_⟩
      rcases e2 with ((e2 | e2) | e2) | e2
      · exact Or.inl ⟨by rw [hcls, e2.1.1]; rfl, e2.1.2, e2.2⟩
      · exact Or.inr (Or.inl ⟨by rw [hcls, e2.1.1]; rfl, e2.1.2, e2.2⟩)
      · exact Or.inr (Or.inr (Or.inl ⟨by rw [hcls, e2.1.1]; rfl, e2.1.2, e2.2⟩))
      · exact Or.inr (Or.inr (Or.inr ⟨by rw [hcls, e2.1.1]; rfl, e2.1.2, e2.2⟩))
  unfold stepQ stepK at hs
  dsimp only at hs
  split at hs
  · next q =>
    cases hs
    simp only [Nat.sub_self, Nat.add_zero] at hc2 hs2
    subst hc2; subst hs2
    refine s_gets hg hd F ?_
    rw [if_pos q]
    exact k
  · next q =>
    cases hs
    simp only [Nat.sub_self, Nat.add_zero] at hc2 hs2
    subst hc2; subst hs2
    refine s_gets hg hd F ?_
    rw [if_neg q]
    exact k
theorem q_iaload {G : GG} {p : Program} {l : Launch} {e : Env} {R : Room} {s : State} {m : MethodId} {args : Array Value} {below : List Frame} {meth : Method} {c : Code} {Q : State → Prop} {y pc cells slots cells2 slots2 : Nat} {L L2 : Lv} {st st2 : List AV} {S S2 : Sh} {h h2 : Mem} {rk len pc2 : Nat} {ax : Nat × Nat × Nat × Int} (F : XFC G p s m args meth c y R) (K : LK) (hz : s.heap.size + cells = gz G + (S.length - 1)) (hc2 : cells2 = cells + (S2.length - S.length)) (hs2 : slots2 = slots + (slt S2 - slt S)) (hr1 : cells2 ≤ R.cells) (hr2 : slots2 ≤ R.slots) (hcls : (mdN y).1.cls = ownN (ownY.getD y 0))
    (hE : eB (ownY.getD y 0) ((mdN y).1.name == "<init>") (mdN y).2.2.1 pc (.iaload) len ax = true) (hd : decode (mdN y).2.1 pc = .ok (.iaload, len)) (hln : lnB (.iaload) len = true)
    (hs : stepQ (gX G) rk (.iaload) len ax pc L st S h = some (.inl (pc2, L2, st2, S2, h2))) (k : WC G p l e R s m args below meth c Q y pc2 L2 st2 S2 h2 cells2 slots2) : WC G p l e R s m args below meth c Q y pc L st S h cells slots := by
  have hln : len = lnI (.iaload) := by simpa [lnB] using hln
  subst hln
  unfold stepQ stepK at hs
  dsimp only at hs
  obtain ⟨a, b, r, rfl, ht⟩ := pAI_some hs
  obtain ⟨v, hv, ht⟩ := xoK_some ht
  cases ht
  simp only [Nat.sub_self, Nat.add_zero] at hc2 hs2
  subst hc2; subst hs2
  exact s_iaload hv hd F k
theorem q_laload {G : GG} {p : Program} {l : Launch} {e : Env} {R : Room} {s : State} {m : MethodId} {args : Array Value} {below : List Frame} {meth : Method} {c : Code} {Q : State → Prop} {y pc cells slots cells2 slots2 : Nat} {L L2 : Lv} {st st2 : List AV} {S S2 : Sh} {h h2 : Mem} {rk len pc2 : Nat} {ax : Nat × Nat × Nat × Int} (F : XFC G p s m args meth c y R) (K : LK) (hz : s.heap.size + cells = gz G + (S.length - 1)) (hc2 : cells2 = cells + (S2.length - S.length)) (hs2 : slots2 = slots + (slt S2 - slt S)) (hr1 : cells2 ≤ R.cells) (hr2 : slots2 ≤ R.slots) (hcls : (mdN y).1.cls = ownN (ownY.getD y 0))
    (hE : eB (ownY.getD y 0) ((mdN y).1.name == "<init>") (mdN y).2.2.1 pc (.laload) len ax = true) (hd : decode (mdN y).2.1 pc = .ok (.laload, len)) (hln : lnB (.laload) len = true)
    (hs : stepQ (gX G) rk (.laload) len ax pc L st S h = some (.inl (pc2, L2, st2, S2, h2))) (k : WC G p l e R s m args below meth c Q y pc2 L2 st2 S2 h2 cells2 slots2) : WC G p l e R s m args below meth c Q y pc L st S h cells slots := by
  have hln : len = lnI (.laload) := by simpa [lnB] using hln
  subst hln
  unfold stepQ stepK at hs
  dsimp only at hs
  obtain ⟨a, b, r, rfl, ht⟩ := pAI_some hs
  obtain ⟨v, hv, ht⟩ := xoK_some ht
  cases ht
  simp only [Nat.sub_self, Nat.add_zero] at hc2 hs2
  subst hc2; subst hs2
  exact s_laload hv hd F k
theorem q_saload {G : GG} {p : Program} {l : Launch} {e : Env} {R : Room} {s : State} {m : MethodId} {args : Array Value} {below : List Frame} {meth : Method} {c : Code} {Q : State → Prop} {y pc cells slots cells2 slots2 : Nat} {L L2 : Lv} {st st2 : List AV} {S S2 : Sh} {h h2 : Mem} {rk len pc2 : Nat} {ax : Nat × Nat × Nat × Int} (F : XFC G p s m args meth c y R) (K : LK) (hz : s.heap.size + cells = gz G + (S.length - 1)) (hc2 : cells2 = cells + (S2.length - S.length)) (hs2 : slots2 = slots + (slt S2 - slt S)) (hr1 : cells2 ≤ R.cells) (hr2 : slots2 ≤ R.slots) (hcls : (mdN y).1.cls = ownN (ownY.getD y 0))
    (hE : eB (ownY.getD y 0) ((mdN y).1.name == "<init>") (mdN y).2.2.1 pc (.saload) len ax = true) (hd : decode (mdN y).2.1 pc = .ok (.saload, len)) (hln : lnB (.saload) len = true)
    (hs : stepQ (gX G) rk (.saload) len ax pc L st S h = some (.inl (pc2, L2, st2, S2, h2))) (k : WC G p l e R s m args below meth c Q y pc2 L2 st2 S2 h2 cells2 slots2) : WC G p l e R s m args below meth c Q y pc L st S h cells slots := by
  have hln : len = lnI (.saload) := by simpa [lnB] using hln
  subst hln
  unfold stepQ stepK at hs
  dsimp only at hs
  obtain ⟨a, b, r, rfl, ht⟩ := pAI_some hs
  obtain ⟨v, hv, ht⟩ := xoK_some ht
  cases ht
  simp only [Nat.sub_self, Nat.add_zero] at hc2 hs2
  subst hc2; subst hs2
  exact s_saload hv hd F k
theorem q_baload {G : GG} {p : Program} {l : Launch} {e : Env} {R : Room} {s : State} {m : MethodId} {args : Array Value} {below : List Frame} {meth : Method} {c : Code} {Q : State → Prop} {y pc cells slots cells2 slots2 : Nat} {L L2 : Lv} {st st2 : List AV} {S S2 : Sh} {h h2 : Mem} {rk len pc2 : Nat} {ax : Nat × Nat × Nat × Int} (F : XFC G p s m args meth c y R) (K : LK) (hz : s.heap.size + cells = gz G + (S.length - 1)) (hc2 : cells2 = cells + (S2.length - S.length)) (hs2 : slots2 = slots + (slt S2 - slt S)) (hr1 : cells2 ≤ R.cells) (hr2 : slots2 ≤ R.slots) (hcls : (mdN y).1.cls = ownN (ownY.getD y 0))
    (hE : eB (ownY.getD y 0) ((mdN y).1.name == "<init>") (mdN y).2.2.1 pc (.baload) len ax = true) (hd : decode (mdN y).2.1 pc = .ok (.baload, len)) (hln : lnB (.baload) len = true)
    (hs : stepQ (gX G) rk (.baload) len ax pc L st S h = some (.inl (pc2, L2, st2, S2, h2))) (k : WC G p l e R s m args below meth c Q y pc2 L2 st2 S2 h2 cells2 slots2) : WC G p l e R s m args below meth c Q y pc L st S h cells slots := by
  have hln : len = lnI (.baload) := by simpa [lnB] using hln
  subst hln
  unfold stepQ stepK at hs
  dsimp only at hs
  obtain ⟨a, b, r, rfl, ht⟩ := pAI_some hs
  obtain ⟨v, hv, ht⟩ := xoK_some ht
  cases ht
  simp only [Nat.sub_self, Nat.add_zero] at hc2 hs2
  subst hc2; subst hs2
  exact s_baload hv hd F k
theorem q_aaload {G : GG} {p : Program} {l : Launch} {e : Env} {R : Room} {s : State} {m : MethodId} {args : Array Value} {below : List Frame} {meth : Method} {c : Code} {Q : State → Prop} {y pc cells slots cells2 slots2 : Nat} {L L2 : Lv} {st st2 : List AV} {S S2 : Sh} {h h2 : Mem} {rk len pc2 : Nat} {ax : Nat × Nat × Nat × Int} (F : XFC G p s m args meth c y R) (K : LK) (hz : s.heap.size + cells = gz G + (S.length - 1)) (hc2 : cells2 = cells + (S2.length - S.length)) (hs2 : slots2 = slots + (slt S2 - slt S)) (hr1 : cells2 ≤ R.cells) (hr2 : slots2 ≤ R.slots) (hcls : (mdN y).1.cls = ownN (ownY.getD y 0))
    (hE : eB (ownY.getD y 0) ((mdN y).1.name == "<init>") (mdN y).2.2.1 pc (.aaload) len ax = true) (hd : decode (mdN y).2.1 pc = .ok (.aaload, len)) (hln : lnB (.aaload) len = true)
    (hs : stepQ (gX G) rk (.aaload) len ax pc L st S h = some (.inl (pc2, L2, st2, S2, h2))) (k : WC G p l e R s m args below meth c Q y pc2 L2 st2 S2 h2 cells2 slots2) : WC G p l e R s m args below meth c Q y pc L st S h cells slots := by
  have hln : len = lnI (.aaload) := by simpa [lnB] using hln
  subst hln
  unfold stepQ stepK at hs
  dsimp only at hs
  obtain ⟨a, b, r, rfl, ht⟩ := pAI_some hs
  obtain ⟨v, hv, ht⟩ := xoK_some ht
  cases ht
  simp only [Nat.sub_self, Nat.add_zero] at hc2 hs2
  subst hc2; subst hs2
  exact s_aaload (by simpa [eB] using hE) hv hd F k
theorem q_iastore {G : GG} {p : Program} {l : Launch} {e : Env} {R : Room} {s : State} {m : MethodId} {args : Array Value} {below : List Frame} {meth : Method} {c : Code} {Q : State → Prop} {y pc cells slots cells2 slots2 : Nat} {L L2 : Lv} {st st2 : List AV} {S S2 : Sh} {h h2 : Mem} {rk len pc2 : Nat} {ax : Nat × Nat × Nat × Int} (F : XFC G p s m args meth c y R) (K : LK) (hz : s.heap.size + cells = gz G + (S.length - 1)) (hc2 : cells2 = cells + (S2.length - S.length)) (hs2 : slots2 = slots + (slt S2 - slt S)) (hr1 : cells2 ≤ R.cells) (hr2 : slots2 ≤ R.slots) (hcls : (mdN y).1.cls = ownN (ownY.getD y 0))
    (hE : eB (ownY.getD y 0) ((mdN y).1.name == "<init>") (mdN y).2.2.1 pc (.iastore) len ax = true) (hd : decode (mdN y).2.1 pc = .ok (.iastore, len)) (hln : lnB (.iastore) len = true)
    (hs : stepQ (gX G) rk (.iastore) len ax pc L st S h = some (.inl (pc2, L2, st2, S2, h2))) (k : WC G p l e R s m args below meth c Q y pc2 L2 st2 S2 h2 cells2 slots2) : WC G p l e R s m args below meth c Q y pc L st S h cells slots := by
  have hln : len = lnI (.iastore) := by simpa [lnB] using hln
  subst hln
  unfold stepQ stepK at hs
  dsimp only at hs
  obtain ⟨a, b, w, r, rfl, ht⟩ := pAII_some hs
  obtain ⟨v, hv, ht⟩ := xoK_some ht
  cases ht
  simp only [Nat.sub_self, Nat.add_zero] at hc2 hs2
  subst hc2; subst hs2
  exact s_iastore hv hd F k
theorem q_bastore {G : GG} {p : Program} {l : Launch} {e : Env} {R : Room} {s : State} {m : MethodId} {args : Array Value} {below : List Frame} {meth : Method} {c : Code} {Q : State → Prop} {y pc cells slots cells2 slots2 : Nat} {L L2 : Lv} {st st2 : List AV} {S S2 : Sh} {h h2 : Mem} {rk len pc2 : Nat} {ax : Nat × Nat × Nat × Int} (F : XFC G p s m args meth c y R) (K : LK) (hz : s.heap.size + cells = gz G + (S.length - 1)) (hc2 : cells2 = cells + (S2.length - S.length)) (hs2 : slots2 = slots + (slt S2 - slt S)) (hr1 : cells2 ≤ R.cells) (hr2 : slots2 ≤ R.slots) (hcls : (mdN y).1.cls = ownN (ownY.getD y 0))
    (hE : eB (ownY.getD y 0) ((mdN y).1.name == "<init>") (mdN y).2.2.1 pc (.bastore) len ax = true) (hd : decode (mdN y).2.1 pc = .ok (.bastore, len)) (hln : lnB (.bastore) len = true)
    (hs : stepQ (gX G) rk (.bastore) len ax pc L st S h = some (.inl (pc2, L2, st2, S2, h2))) (k : WC G p l e R s m args below meth c Q y pc2 L2 st2 S2 h2 cells2 slots2) : WC G p l e R s m args below meth c Q y pc L st S h cells slots := by
  have hln : len = lnI (.bastore) := by simpa [lnB] using hln
  subst hln
  unfold stepQ stepK at hs
  dsimp only at hs
  obtain ⟨a, b, w, r, rfl, ht⟩ := pAII_some hs
  obtain ⟨v, hv, ht⟩ := xoK_some ht
  cases ht
  simp only [Nat.sub_self, Nat.add_zero] at hc2 hs2
  subst hc2; subst hs2
  exact s_bastore hv hd F k
theorem q_sastore {G : GG} {p : Program} {l : Launch} {e : Env} {R : Room} {s : State} {m : MethodId} {args : Array Value} {below : List Frame} {meth : Method} {c : Code} {Q : State → Prop} {y pc cells slots cells2 slots2 : Nat} {L L2 : Lv} {st st2 : List AV} {S S2 : Sh} {h h2 : Mem} {rk len pc2 : Nat} {ax : Nat × Nat × Nat × Int} (F : XFC G p s m args meth c y R) (K : LK) (hz : s.heap.size + cells = gz G + (S.length - 1)) (hc2 : cells2 = cells + (S2.length - S.length)) (hs2 : slots2 = slots + (slt S2 - slt S)) (hr1 : cells2 ≤ R.cells) (hr2 : slots2 ≤ R.slots) (hcls : (mdN y).1.cls = ownN (ownY.getD y 0))
    (hE : eB (ownY.getD y 0) ((mdN y).1.name == "<init>") (mdN y).2.2.1 pc (.sastore) len ax = true) (hd : decode (mdN y).2.1 pc = .ok (.sastore, len)) (hln : lnB (.sastore) len = true)
    (hs : stepQ (gX G) rk (.sastore) len ax pc L st S h = some (.inl (pc2, L2, st2, S2, h2))) (k : WC G p l e R s m args below meth c Q y pc2 L2 st2 S2 h2 cells2 slots2) : WC G p l e R s m args below meth c Q y pc L st S h cells slots := by
  have hln : len = lnI (.sastore) := by simpa [lnB] using hln
  subst hln
  unfold stepQ stepK at hs
  dsimp only at hs
  obtain ⟨a, b, w, r, rfl, ht⟩ := pAII_some hs
  obtain ⟨v, hv, ht⟩ := xoK_some ht
  cases ht
  simp only [Nat.sub_self, Nat.add_zero] at hc2 hs2
  subst hc2; subst hs2
  exact s_sastore hv hd F k
theorem q_lastore {G : GG} {p : Program} {l : Launch} {e : Env} {R : Room} {s : State} {m : MethodId} {args : Array Value} {below : List Frame} {meth : Method} {c : Code} {Q : State → Prop} {y pc cells slots cells2 slots2 : Nat} {L L2 : Lv} {st st2 : List AV} {S S2 : Sh} {h h2 : Mem} {rk len pc2 : Nat} {ax : Nat × Nat × Nat × Int} (F : XFC G p s m args meth c y R) (K : LK) (hz : s.heap.size + cells = gz G + (S.length - 1)) (hc2 : cells2 = cells + (S2.length - S.length)) (hs2 : slots2 = slots + (slt S2 - slt S)) (hr1 : cells2 ≤ R.cells) (hr2 : slots2 ≤ R.slots) (hcls : (mdN y).1.cls = ownN (ownY.getD y 0))
    (hE : eB (ownY.getD y 0) ((mdN y).1.name == "<init>") (mdN y).2.2.1 pc (.lastore) len ax = true) (hd : decode (mdN y).2.1 pc = .ok (.lastore, len)) (hln : lnB (.lastore) len = true)
    (hs : stepQ (gX G) rk (.lastore) len ax pc L st S h = some (.inl (pc2, L2, st2, S2, h2))) (k : WC G p l e R s m args below meth c Q y pc2 L2 st2 S2 h2 cells2 slots2) : WC G p l e R s m args below meth c Q y pc L st S h cells slots := by
  have hln : len = lnI (.lastore) := by simpa [lnB] using hln
  subst hln
  unfold stepQ stepK at hs
  dsimp only at hs
  obtain ⟨a, b, w, r, rfl, ht⟩ := pAIJ_some hs
  obtain ⟨v, hv, ht⟩ := xoK_some ht
  cases ht
  simp only [Nat.sub_self, Nat.add_zero] at hc2 hs2
  subst hc2; subst hs2
  exact s_lastore hv hd F k
theorem q_aastore {G : GG} {p : Program} {l : Launch} {e : Env} {R : Room} {s : State} {m : MethodId} {args : Array Value} {below : List Frame} {meth : Method} {c : Code} {Q : State → Prop} {y pc cells slots cells2 slots2 : Nat} {L L2 : Lv} {st st2 : List AV} {S S2 : Sh} {h h2 : Mem} {rk len pc2 : Nat} {ax : Nat × Nat × Nat × Int} (F : XFC G p s m args meth c y R) (K : LK) (hz : s.heap.size + cells = gz G + (S.length - 1)) (hc2 : cells2 = cells + (S2.length - S.length)) (hs2 : slots2 = slots + (slt S2 - slt S)) (hr1 : cells2 ≤ R.cells) (hr2 : slots2 ≤ R.slots) (hcls : (mdN y).1.cls = ownN (ownY.getD y 0))
    (hE : eB (ownY.getD y 0) ((mdN y).1.name == "<init>") (mdN y).2.2.1 pc (.aastore) len ax = true) (hd : decode (mdN y).2.1 pc = .ok (.aastore, len)) (hln : lnB (.aastore) len = true)
    (hs : stepQ (gX G) rk (.aastore) len ax pc L st S h = some (.inl (pc2, L2, st2, S2, h2))) (k : WC G p l e R s m args below meth c Q y pc2 L2 st2 S2 h2 cells2 slots2) : WC G p l e R s m args below meth c Q y pc L st S h cells slots := by
  have hln : len = lnI (.aastore) := by simpa [lnB] using hln
  subst hln
  unfold stepQ stepK at hs
  dsimp only at hs
  obtain ⟨a, b, w, r, rfl, ht⟩ := pAIA_some hs
  split at ht
  case isFalse => cases ht
  next hkd =>
  obtain ⟨v, hv, ht⟩ := xoK_some ht
  cases ht
  simp only [Nat.sub_self, Nat.add_zero] at hc2 hs2
  subst hc2; subst hs2
  exact s_aastore hkd hv hd F k
theorem q_arraylength {G : GG} {p : Program} {l : Launch} {e : Env} {R : Room} {s : State} {m : MethodId} {args : Array Value} {below : List Frame} {meth : Method} {c : Code} {Q : State → Prop} {y pc cells slots cells2 slots2 : Nat} {L L2 : Lv} {st st2 : List AV} {S S2 : Sh} {h h2 : Mem} {rk len pc2 : Nat} {ax : Nat × Nat × Nat × Int} (F : XFC G p s m args meth c y R) (K : LK) (hz : s.heap.size + cells = gz G + (S.length - 1)) (hc2 : cells2 = cells + (S2.length - S.length)) (hs2 : slots2 = slots + (slt S2 - slt S)) (hr1 : cells2 ≤ R.cells) (hr2 : slots2 ≤ R.slots) (hcls : (mdN y).1.cls = ownN (ownY.getD y 0))
    (hE : eB (ownY.getD y 0) ((mdN y).1.name == "<init>") (mdN y).2.2.1 pc (.arraylength) len ax = true) (hd : decode (mdN y).2.1 pc = .ok (.arraylength, len)) (hln : lnB (.arraylength) len = true)
    (hs : stepQ (gX G) rk (.arraylength) len ax pc L st S h = some (.inl (pc2, L2, st2, S2, h2))) (k : WC G p l e R s m args below meth c Q y pc2 L2 st2 S2 h2 cells2 slots2) : WC G p l e R s m args below meth c Q y pc L st S h cells slots := by
  have hln : len = lnI (.arraylength) := by simpa [lnB] using hln
  subst hln
  unfold stepQ stepK at hs
  dsimp only at hs
  obtain ⟨a, r, rfl, ht⟩ := pA_some hs
  obtain ⟨v, hv, ht⟩ := xoK_some ht
  cases ht
  simp only [Nat.sub_self, Nat.add_zero] at hc2 hs2
  subst hc2; subst hs2
  exact s_arraylength hv hd F k
theorem q_new {G : GG} {p : Program} {l : Launch} {e : Env} {R : Room} {s : State} {m : MethodId} {args : Array Value} {below : List Frame} {meth : Method} {c : Code} {Q : State → Prop} {y pc cells slots cells2 slots2 : Nat} {L L2 : Lv} {st st2 : List AV} {S S2 : Sh} {h h2 : Mem} {rk len pc2 : Nat} {ax : Nat × Nat × Nat × Int} {x : Nat} (F : XFC G p s m args meth c y R) (K : LK) (hz : s.heap.size + cells = gz G + (S.length - 1)) (hc2 : cells2 = cells + (S2.length - S.length)) (hs2 : slots2 = slots + (slt S2 - slt S)) (hr1 : cells2 ≤ R.cells) (hr2 : slots2 ≤ R.slots) (hcls : (mdN y).1.cls = ownN (ownY.getD y 0))
    (hE : eB (ownY.getD y 0) ((mdN y).1.name == "<init>") (mdN y).2.2.1 pc (.new x) len ax = true) (hd : decode (mdN y).2.1 pc = .ok (.new x, len)) (hln : lnB (.new x) len = true)
    (hs : stepQ (gX G) rk (.new x) len ax pc L st S h = some (.inl (pc2, L2, st2, S2, h2))) (k : WC G p l e R s m args below meth c Q y pc2 L2 st2 S2 h2 cells2 slots2) : WC G p l e R s m args below meth c Q y pc L st S h cells slots := by
  have hln : len = lnI (.new x) := by simpa [lnB] using hln
  subst hln
  unfold stepQ stepK at hs
  dsimp only at hs
  cases hs
  simp only [eB, Bool.and_eq_true, decide_eq_true_eq, beq_iff_eq] at hE
  obtain ⟨⟨e1, e2⟩, e3⟩ := hE
  obtain ⟨f, g1, g2⟩ := List.any_eq_true.mp e2
  simp only [Bool.and_eq_true, beq_iff_eq] at g2
  obtain ⟨⟨g2, g3⟩, g4⟩ := g2
  have hk := K.2.2.2.2.1 f g1
  rw [g2, g3, g4, ← hcls] at hk
  rw [← e3] at hc2 hs2 k
  rw [List.length_append, List.length_singleton, Nat.add_sub_cancel_left] at hc2
  rw [slt_app, Nat.add_sub_cancel_left] at hs2
  have e5 : slt [(ax.1, (clN ax.1).2.2)] = (clN ax.1).2.2 := by simp [slt]
  rw [e5] at hs2
  subst hc2; subst hs2
  exact s_new e1 hk hz hr1 hr2 hd F k
theorem q_newarray {G : GG} {p : Program} {l : Launch} {e : Env} {R : Room} {s : State} {m : MethodId} {args : Array Value} {below : List Frame} {meth : Method} {c : Code} {Q : State → Prop} {y pc cells slots cells2 slots2 : Nat} {L L2 : Lv} {st st2 : List AV} {S S2 : Sh} {h h2 : Mem} {rk len pc2 : Nat} {ax : Nat × Nat × Nat × Int} {t : ArrayType} (F : XFC G p s m args meth c y R) (K : LK) (hz : s.heap.size + cells = gz G + (S.length - 1)) (hc2 : cells2 = cells + (S2.length - S.length)) (hs2 : slots2 = slots + (slt S2 - slt S)) (hr1 : cells2 ≤ R.cells) (hr2 : slots2 ≤ R.slots) (hcls : (mdN y).1.cls = ownN (ownY.getD y 0))
    (hE : eB (ownY.getD y 0) ((mdN y).1.name == "<init>") (mdN y).2.2.1 pc (.newarray t) len ax = true) (hd : decode (mdN y).2.1 pc = .ok (.newarray t, len)) (hln : lnB (.newarray t) len = true)
    (hs : stepQ (gX G) rk (.newarray t) len ax pc L st S h = some (.inl (pc2, L2, st2, S2, h2))) (k : WC G p l e R s m args below meth c Q y pc2 L2 st2 S2 h2 cells2 slots2) : WC G p l e R s m args below meth c Q y pc L st S h cells slots := by
  have hln : len = lnI (.newarray t) := by simpa [lnB] using hln
  subst hln
  unfold stepQ stepK at hs
  dsimp only at hs
  obtain ⟨n, r, rfl, ht⟩ := pI_some hs
  split at ht
  case isFalse => cases ht
  next hn =>
  cases ht
  simp only [eB, Bool.and_eq_true, decide_eq_true_eq, beq_iff_eq] at hE
  rw [List.length_append, List.length_singleton, Nat.add_sub_cancel_left] at hc2
  rw [slt_app, Nat.add_sub_cancel_left] at hs2
  have e5 : slt [(ax.1, n.toNat)] = n.toNat := by simp [slt]
  rw [e5] at hs2
  subst hc2; subst hs2
  exact s_newarray hE.1 hE.2 hn hz hr1 hr2 hd F k
theorem q_anewarray {G : GG} {p : Program} {l : Launch} {e : Env} {R : Room} {s : State} {m : MethodId} {args : Array Value} {below : List Frame} {meth : Method} {c : Code} {Q : State → Prop} {y pc cells slots cells2 slots2 : Nat} {L L2 : Lv} {st st2 : List AV} {S S2 : Sh} {h h2 : Mem} {rk len pc2 : Nat} {ax : Nat × Nat × Nat × Int} {x : Nat} (F : XFC G p s m args meth c y R) (K : LK) (hz : s.heap.size + cells = gz G + (S.length - 1)) (hc2 : cells2 = cells + (S2.length - S.length)) (hs2 : slots2 = slots + (slt S2 - slt S)) (hr1 : cells2 ≤ R.cells) (hr2 : slots2 ≤ R.slots) (hcls : (mdN y).1.cls = ownN (ownY.getD y 0))
    (hE : eB (ownY.getD y 0) ((mdN y).1.name == "<init>") (mdN y).2.2.1 pc (.anewarray x) len ax = true) (hd : decode (mdN y).2.1 pc = .ok (.anewarray x, len)) (hln : lnB (.anewarray x) len = true)
    (hs : stepQ (gX G) rk (.anewarray x) len ax pc L st S h = some (.inl (pc2, L2, st2, S2, h2))) (k : WC G p l e R s m args below meth c Q y pc2 L2 st2 S2 h2 cells2 slots2) : WC G p l e R s m args below meth c Q y pc L st S h cells slots := by
  have hln : len = lnI (.anewarray x) := by simpa [lnB] using hln
  subst hln
  unfold stepQ stepK at hs
  dsimp only at hs
  obtain ⟨n, r, rfl, ht⟩ := pI_some hs
  split at ht
  case isFalse => cases ht
  next hn =>
  cases ht
  simp only [eB, Bool.and_eq_true, decide_eq_true_eq, beq_iff_eq] at hE
  obtain ⟨e1, rfl⟩ := hE
  rw [List.length_append, List.length_singleton, Nat.add_sub_cancel_left] at hc2
  rw [slt_app, Nat.add_sub_cancel_left] at hs2
  have e5 : slt [(24, n.toNat)] = n.toNat := by simp [slt]
  rw [e5] at hs2
  subst hc2; subst hs2
  exact s_anewarray (by rw [hcls, e1]; rfl) hn hz hr1 hr2 hd F k
theorem q_invokespecial {G : GG} {p : Program} {l : Launch} {e : Env} {R : Room} {s : State} {m : MethodId} {args : Array Value} {below : List Frame} {meth : Method} {c : Code} {Q : State → Prop} {y pc cells slots cells2 slots2 : Nat} {L L2 : Lv} {st st2 : List AV} {S S2 : Sh} {h h2 : Mem} {rk len pc2 : Nat} {ax : Nat × Nat × Nat × Int} {x : Nat} (F : XFC G p s m args meth c y R) (K : LK) (hz : s.heap.size + cells = gz G + (S.length - 1)) (hc2 : cells2 = cells + (S2.length - S.length)) (hs2 : slots2 = slots + (slt S2 - slt S)) (hr1 : cells2 ≤ R.cells) (hr2 : slots2 ≤ R.slots) (hcls : (mdN y).1.cls = ownN (ownY.getD y 0))
    (hE : eB (ownY.getD y 0) ((mdN y).1.name == "<init>") (mdN y).2.2.1 pc (.invokespecial x) len ax = true) (hd : decode (mdN y).2.1 pc = .ok (.invokespecial x, len)) (hln : lnB (.invokespecial x) len = true)
    (hs : stepQ (gX G) rk (.invokespecial x) len ax pc L st S h = some (.inl (pc2, L2, st2, S2, h2))) (k : WC G p l e R s m args below meth c Q y pc2 L2 st2 S2 h2 cells2 slots2) : WC G p l e R s m args below meth c Q y pc L st S h cells slots := by
  have hln : len = lnI (.invokespecial x) := by simpa [lnB] using hln
  subst hln
  unfold stepQ stepK at hs
  dsimp only at hs
  split at hs
  · next q =>
    obtain ⟨a, r, rfl, ht⟩ := pA_some hs
    split at ht
    case isFalse => cases ht
    next hcat =>
    split at ht
    case isFalse => cases ht
    next hkd =>
    cases ht
    simp only [Nat.sub_self, Nat.add_zero] at hc2 hs2
    subst hc2; subst hs2
    simp only [eB] at hE
    rw [if_pos q] at hE
    simp only [Bool.and_eq_true, decide_eq_true_eq] at hE
    obtain ⟨e1, e2⟩ := hE
    obtain ⟨f, g1, g2⟩ := List.any_eq_true.mp e1
    simp only [Bool.and_eq_true, beq_iff_eq] at g2
    have hk := K.2.2.2.2.2.2.1 f g1
    rw [g2.1, g2.2, ← hcls] at hk
    exact s_objInit e2 hkd hcat hk hd F k
  · obtain ⟨a, r, h1, hs⟩ := pA_some hs
    split at hs
    case isFalse => cases hs
    split at hs
    · cases hs
    · cases hs
theorem q_invokestatic {G : GG} {p : Program} {l : Launch} {e : Env} {R : Room} {s : State} {m : MethodId} {args : Array Value} {below : List Frame} {meth : Method} {c : Code} {Q : State → Prop} {y pc cells slots cells2 slots2 : Nat} {L L2 : Lv} {st st2 : List AV} {S S2 : Sh} {h h2 : Mem} {rk len pc2 : Nat} {ax : Nat × Nat × Nat × Int} {x : Nat} (F : XFC G p s m args meth c y R) (K : LK) (hz : s.heap.size + cells = gz G + (S.length - 1)) (hc2 : cells2 = cells + (S2.length - S.length)) (hs2 : slots2 = slots + (slt S2 - slt S)) (hr1 : cells2 ≤ R.cells) (hr2 : slots2 ≤ R.slots) (hcls : (mdN y).1.cls = ownN (ownY.getD y 0))
    (hE : eB (ownY.getD y 0) ((mdN y).1.name == "<init>") (mdN y).2.2.1 pc (.invokestatic x) len ax = true) (hd : decode (mdN y).2.1 pc = .ok (.invokestatic x, len)) (hln : lnB (.invokestatic x) len = true)
    (hs : stepQ (gX G) rk (.invokestatic x) len ax pc L st S h = some (.inl (pc2, L2, st2, S2, h2))) (k : WC G p l e R s m args below meth c Q y pc2 L2 st2 S2 h2 cells2 slots2) : WC G p l e R s m args below meth c Q y pc L st S h cells slots := by
  have hln : len = lnI (.invokestatic x) := by simpa [lnB] using hln
  subst hln
  unfold stepQ stepK at hs
  dsimp only at hs
  split at hs
  · next q =>
    obtain ⟨a, p0, q0, d0, n0, r, rfl, ht⟩ := pCP_some hs
    split at ht
    case isFalse => cases ht
    next hcat =>
    obtain ⟨v, hv, ht⟩ := xoK_some ht
    cases ht
    simp only [Nat.sub_self, Nat.add_zero] at hc2 hs2
    subst hc2; subst hs2
    simp only [eB] at hE
    rw [if_pos q] at hE
    obtain ⟨f, g1, g2⟩ := List.any_eq_true.mp hE
    simp only [Bool.and_eq_true, beq_iff_eq] at g2
    have hk := K.2.2.2.2.2.2.2.1 f g1
    rw [g2.1, g2.2, ← hcls] at hk
    exact s_arraycopy hv hcat hk hd F k
  · next q1 =>
    simp only [eB] at hE
    rw [if_neg q1] at hE
    have lk : (ax.2.2.2 = 2 ∨ ax.2.2.2 = 3 ∨ ax.2.2.2 = 4) → Cond.methodLink (mdN y).1.cls x (if ax.2.2.2 = 2 then Lib.Math.min.name else if ax.2.2.2 = 3 then Lib.Math.max.name else Lib.Math.abs.name) ∈ TG := by
      intro z
      rw [if_pos z] at hE
      obtain ⟨f, g1, g2⟩ := List.any_eq_true.mp hE
      simp only [Bool.and_eq_true, beq_iff_eq] at g2
      have hk := K.2.2.2.2.2.2.2.2.2.2.2.2.2.2.2 f g1
      rw [g2.1.1, g2.1.2, g2.2, ← hcls] at hk
      exact hk
    split at hs
    · next q2 =>
      obtain ⟨a, b, r, e1, hq⟩ := pII_some hs
      subst e1
      split at hq
      case isFalse => cases hq
      next hcat =>
      cases hq
      simp only [Nat.sub_self, Nat.add_zero] at hc2 hs2
      subst hc2; subst hs2
      have hk := lk (Or.inl q2)
      rw [if_pos q2] at hk
      exact s_mmin hcat hk hr1 hr2 hd F k
    · next q2 =>
      split at hs
      · next q3 =>
        obtain ⟨a, b, r, e1, hq⟩ := pII_some hs
        subst e1
        split at hq
        case isFalse => cases hq
        next hcat =>
        cases hq
        simp only [Nat.sub_self, Nat.add_zero] at hc2 hs2
        subst hc2; subst hs2
        have hk := lk (Or.inr (Or.inl q3))
        rw [if_neg q2, if_pos q3] at hk
        exact s_mmax hcat hk hr1 hr2 hd F k
      · next q3 =>
        split at hs
        · next q4 =>
          obtain ⟨a, r, e1, hq⟩ := pI_some hs
          subst e1
          split at hq
          case isFalse => cases hq
          next hcat =>
          cases hq
          simp only [Nat.sub_self, Nat.add_zero] at hc2 hs2
          subst hc2; subst hs2
          have hk := lk (Or.inr (Or.inr q4))
          rw [if_neg q2, if_neg q3] at hk
          exact s_mabs hcat hk hr1 hr2 hd F k
        · split at hs
          case isFalse => cases hs
          split at hs
          · cases hs
          · cases hs
theorem q_invokevirtual {G : GG} {p : Program} {l : Launch} {e : Env} {R : Room} {s : State} {m : MethodId} {args : Array Value} {below : List Frame} {meth : Method} {c : Code} {Q : State → Prop} {y pc cells slots cells2 slots2 : Nat} {L L2 : Lv} {st st2 : List AV} {S S2 : Sh} {h h2 : Mem} {rk len pc2 : Nat} {ax : Nat × Nat × Nat × Int} {x : Nat} (F : XFC G p s m args meth c y R) (K : LK) (hz : s.heap.size + cells = gz G + (S.length - 1)) (hc2 : cells2 = cells + (S2.length - S.length)) (hs2 : slots2 = slots + (slt S2 - slt S)) (hr1 : cells2 ≤ R.cells) (hr2 : slots2 ≤ R.slots) (hcls : (mdN y).1.cls = ownN (ownY.getD y 0))
    (hE : eB (ownY.getD y 0) ((mdN y).1.name == "<init>") (mdN y).2.2.1 pc (.invokevirtual x) len ax = true) (hd : decode (mdN y).2.1 pc = .ok (.invokevirtual x, len)) (hln : lnB (.invokevirtual x) len = true)
    (hs : stepQ (gX G) rk (.invokevirtual x) len ax pc L st S h = some (.inl (pc2, L2, st2, S2, h2))) (k : WC G p l e R s m args below meth c Q y pc2 L2 st2 S2 h2 cells2 slots2) : WC G p l e R s m args below meth c Q y pc L st S h cells slots := by
  have hln : len = lnI (.invokevirtual x) := by simpa [lnB] using hln
  subst hln
  unfold stepQ stepK at hs
  dsimp only at hs
  obtain ⟨a, r, h1, hs⟩ := pA_some hs
  split at hs
  case isFalse => cases hs
  split at hs
  · split at hs
    · cases hs
    · cases hs
  · split at hs
    · cases hs
    · cases hs
theorem q_multianewarray (M : MNA) {G : GG} {p : Program} {l : Launch} {e : Env} {R : Room} {s : State} {m : MethodId} {args : Array Value} {below : List Frame} {meth : Method} {c : Code} {Q : State → Prop} {y pc cells slots cells2 slots2 : Nat} {L L2 : Lv} {st st2 : List AV} {S S2 : Sh} {h h2 : Mem} {rk len pc2 : Nat} {ax : Nat × Nat × Nat × Int} {x n : Nat} (F : XFC G p s m args meth c y R) (K : LK) (hz : s.heap.size + cells = gz G + (S.length - 1)) (hc2 : cells2 = cells + (S2.length - S.length)) (hs2 : slots2 = slots + (slt S2 - slt S)) (hr1 : cells2 ≤ R.cells) (hr2 : slots2 ≤ R.slots) (hcls : (mdN y).1.cls = ownN (ownY.getD y 0))
    (hE : eB (ownY.getD y 0) ((mdN y).1.name == "<init>") (mdN y).2.2.1 pc (.multianewarray x n) len ax = true) (hd : decode (mdN y).2.1 pc = .ok (.multianewarray x n, len)) (hln : lnB (.multianewarray x n) len = true)
    (hs : stepQ (gX G) rk (.multianewarray x n) len ax pc L st S h = some (.inl (pc2, L2, st2, S2, h2))) (k : WC G p l e R s m args below meth c Q y pc2 L2 st2 S2 h2 cells2 slots2) : WC G p l e R s m args below meth c Q y pc L st S h cells slots := by
  have hln : len = lnI (.multianewarray x n) := by simpa [lnB] using hln
  subst hln
  unfold stepQ stepK at hs
  dsimp only at hs
  obtain ⟨n, b, r, rfl, ht⟩ := pII_some hs
  split at ht
  case isFalse => cases ht
  next hn =>
  obtain ⟨rfl, rfl⟩ := hn
  cases ht
  simp only [eB, Bool.and_eq_true, beq_iff_eq] at hE
  obtain ⟨⟨e1, rfl⟩, rfl⟩ := hE
  rw [List.length_append, Nat.add_sub_cancel_left] at hc2
  rw [slt_app, Nat.add_sub_cancel_left] at hs2
  have hc2 : cells2 = cells + 5 := hc2
  have hs2 : slots2 = slots + 244 := hs2
  subst hc2; subst hs2
  exact s_multianewarray M (by rw [hcls, e1]; rfl) hz hr1 hr2 hd F k
theorem q_ireturn {G : GG} {p : Program} {l : Launch} {e : Env} {R : Room} {s : State} {m : MethodId} {args : Array Value} {below : List Frame} {meth : Method} {c : Code} {Q : State → Prop} {y pc cells slots cells2 slots2 : Nat} {L L2 : Lv} {st st2 : List AV} {S S2 : Sh} {h h2 : Mem} {rk len pc2 : Nat} {ax : Nat × Nat × Nat × Int} (F : XFC G p s m args meth c y R) (K : LK) (hz : s.heap.size + cells = gz G + (S.length - 1)) (hc2 : cells2 = cells + (S2.length - S.length)) (hs2 : slots2 = slots + (slt S2 - slt S)) (hr1 : cells2 ≤ R.cells) (hr2 : slots2 ≤ R.slots) (hcls : (mdN y).1.cls = ownN (ownY.getD y 0))
    (hE : eB (ownY.getD y 0) ((mdN y).1.name == "<init>") (mdN y).2.2.1 pc (.ireturn) len ax = true) (hd : decode (mdN y).2.1 pc = .ok (.ireturn, len)) (hln : lnB (.ireturn) len = true)
    (hs : stepQ (gX G) rk (.ireturn) len ax pc L st S h = some (.inl (pc2, L2, st2, S2, h2))) (k : WC G p l e R s m args below meth c Q y pc2 L2 st2 S2 h2 cells2 slots2) : WC G p l e R s m args below meth c Q y pc L st S h cells slots := by
  have hln : len = lnI (.ireturn) := by simpa [lnB] using hln
  subst hln
  unfold stepQ stepK at hs
  dsimp only at hs
  obtain ⟨a, r, rfl, ht⟩ := pI_some hs
  cases r with
  | nil =>
    dsimp only at ht
    repeat' (first | (cases ht; done) | split at ht)
  | cons _ _ => cases ht
theorem q_lreturn {G : GG} {p : Program} {l : Launch} {e : Env} {R : Room} {s : State} {m : MethodId} {args : Array Value} {below : List Frame} {meth : Method} {c : Code} {Q : State → Prop} {y pc cells slots cells2 slots2 : Nat} {L L2 : Lv} {st st2 : List AV} {S S2 : Sh} {h h2 : Mem} {rk len pc2 : Nat} {ax : Nat × Nat × Nat × Int} (F : XFC G p s m args meth c y R) (K : LK) (hz : s.heap.size + cells = gz G + (S.length - 1)) (hc2 : cells2 = cells + (S2.length - S.length)) (hs2 : slots2 = slots + (slt S2 - slt S)) (hr1 : cells2 ≤ R.cells) (hr2 : slots2 ≤ R.slots) (hcls : (mdN y).1.cls = ownN (ownY.getD y 0))
    (hE : eB (ownY.getD y 0) ((mdN y).1.name == "<init>") (mdN y).2.2.1 pc (.lreturn) len ax = true) (hd : decode (mdN y).2.1 pc = .ok (.lreturn, len)) (hln : lnB (.lreturn) len = true)
    (hs : stepQ (gX G) rk (.lreturn) len ax pc L st S h = some (.inl (pc2, L2, st2, S2, h2))) (k : WC G p l e R s m args below meth c Q y pc2 L2 st2 S2 h2 cells2 slots2) : WC G p l e R s m args below meth c Q y pc L st S h cells slots := by
  have hln : len = lnI (.lreturn) := by simpa [lnB] using hln
  subst hln
  unfold stepQ stepK at hs
  dsimp only at hs
  obtain ⟨a, r, rfl, ht⟩ := pJ_some hs
  cases r with
  | nil =>
    dsimp only at ht
    repeat' (first | (cases ht; done) | split at ht)
  | cons _ _ => cases ht
theorem q_return_ {G : GG} {p : Program} {l : Launch} {e : Env} {R : Room} {s : State} {m : MethodId} {args : Array Value} {below : List Frame} {meth : Method} {c : Code} {Q : State → Prop} {y pc cells slots cells2 slots2 : Nat} {L L2 : Lv} {st st2 : List AV} {S S2 : Sh} {h h2 : Mem} {rk len pc2 : Nat} {ax : Nat × Nat × Nat × Int} (F : XFC G p s m args meth c y R) (K : LK) (hz : s.heap.size + cells = gz G + (S.length - 1)) (hc2 : cells2 = cells + (S2.length - S.length)) (hs2 : slots2 = slots + (slt S2 - slt S)) (hr1 : cells2 ≤ R.cells) (hr2 : slots2 ≤ R.slots) (hcls : (mdN y).1.cls = ownN (ownY.getD y 0))
    (hE : eB (ownY.getD y 0) ((mdN y).1.name == "<init>") (mdN y).2.2.1 pc (.return_) len ax = true) (hd : decode (mdN y).2.1 pc = .ok (.return_, len)) (hln : lnB (.return_) len = true)
    (hs : stepQ (gX G) rk (.return_) len ax pc L st S h = some (.inl (pc2, L2, st2, S2, h2))) (k : WC G p l e R s m args below meth c Q y pc2 L2 st2 S2 h2 cells2 slots2) : WC G p l e R s m args below meth c Q y pc L st S h cells slots := by
  have hln : len = lnI (.return_) := by simpa [lnB] using hln
  subst hln
  unfold stepQ stepK at hs
  dsimp only at hs
  cases st with
  | nil =>
    dsimp only at hs
    split at hs <;> cases hs
  | cons _ _ => cases hs
