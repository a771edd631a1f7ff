/-! CALLS AND ENDS: a method's contract, taken from its run -/
def CP (G : GG) (vs : List AV) (S : Sh) (h : Mem) : Array Value → State → Prop := fun a U => a = (vs.map (cv G)).toArray ∧ CX G U ∧ Rel G S h U.heap ∧ U.heap.size = gz G + (S.length - 1) ∧ ∀ v ∈ vs, okV S v
def CQ (G : GG) (r : Res) : Array Value → State → Outcome → State → Prop := fun _ st oc t => oc = .returned (r.1.map (cv G)) ∧ (∀ v, r.1 = some v → okV r.2.1 v) ∧ Rel G r.2.1 r.2.2 t.heap ∧ va_F (gA G) st t
def rmD (d mc ms : Nat) : Room := { frames := d + 1, cells := mc, slots := ms, locals := (d + 1) * 64 }
def wsY (y : Nat) : List Cond := Cond.code (mdN y).1 (mdN y).2.1 (mdN y).2.2.1 (mdN y).2.2.2 :: TG
def CT (G : GG) (l : Launch) (d y : Nat) (vs : List AV) (S : Sh) (h : Mem) (r : Res) : Prop :=
  Met l (mdN y).1 (wsY y) (rmD d (r.2.1.length - S.length) (slt r.2.1 - slt S)) (CP G vs S h) (CQ G r) (r.2.1.length - S.length) (slt r.2.1 - slt S) (gA G)
theorem CP_blind (G : GG) (vs : List AV) (S : Sh) (h : Mem) : FrameBlind (CP G vs S h) := fun a U g mk ⟨h1, h2, h3, h4, h5⟩ => ⟨h1, CX_calling h2, h3, h4, h5⟩
theorem CP_at {G : GG} {s U : State} {vs : List AV} {S : Sh} {h : Mem} {H : Heap} {locs : List Loc} (hC : CX G s) (hR : Rel G S h H) (hS : va_S (gA G) s.heap H locs) (hsz : H.size = gz G + (S.length - 1)) (hvs : ∀ v ∈ vs, okV S v) (hU : U.heap = H) (hW : s.WarmedH U.vm) : CP G vs S h (vs.map (cv G)).toArray U :=
  ⟨rfl, CX_moved hW (by rw [hU, hsz]; omega) (fun a h1 h2 => by rw [hU]; exact hS.2.1 a h1 h2) hC, by rw [hU]; exact hR, by rw [hU]; exact hsz, hvs⟩
theorem good_TG {y : Nat} (hc : Cond.code (mdN y).1 (mdN y).2.1 (mdN y).2.2.1 (mdN y).2.2.2 ∈ TG) : GoodIn TG (wsY y) := by
  intro w hw
  have hw' : w ∈ TG := by
    rcases List.mem_cons.mp hw with rfl | h
    · exact hc
    · exact h
  exact ⟨hw', good_of_word (List.mem_filter.mp hw').2⟩
/-- what a call of a method of ours rests on -/
def clOk (own : String) (ix y n : Nat) : Prop := Cond.methodLink own ix (mdN y).1 ∈ TG ∧ Cond.code (mdN y).1 (mdN y).2.1 (mdN y).2.2.1 (mdN y).2.2.2 ∈ TG ∧ Cond.initialized (mdN y).1.cls ∈ TG ∧ (mdN y).1.cls ≠ "java/lang/invoke/MethodHandle" ∧ (mdN y).1.cls ≠ "java/lang/invoke/VarHandle" ∧ argN (mdN y).1.desc = some n ∧ (mdN y).2.2.1 ≤ 40
theorem cb_of {R : Room} {s : State} {args : Array Value} {own : String} {ix y n d mc ms : Nat} (hts : ∀ w ∈ TG, w.before args s = true) (h : clOk own ix y n) (hf : d + 2 ≤ R.frames) (hl : (d + 2) * 64 ≤ R.locals) :
    CallB R s args own ix (mdN y).1 (mdN y).2.1 (mdN y).2.2.1 (mdN y).2.2.2 (wsY y) (rmD d mc ms) mc ms n := by
  obtain ⟨h1, h2, h3, h4, h5, h6, h7⟩ := h
  exact callB_of n hts (good_TG h2) rfl rfl rfl (hts _ h3) (hts _ h1) ⟨h4, h5, h6⟩ ⟨by show d + 1 + 1 ≤ _; omega, by show 8 + (_ + 11) + (d + 1) * 64 ≤ _; omega⟩
theorem am_goOn {G : GG} {p : Program} {l : Launch} {e : Env} {R : Room} {s : State} {m : MethodId} {args : Array Value} {below : List Frame} {meth : Method} {c : Code} {Q : State → Prop} {pc cells slots mc ms : Nat} {ls : Array Slot} {H : Heap} {locs : List Loc} {st0 rest : List Value} {r : Res} {a : Array Value}
    (hr : va_Run p l e R s m args below meth c H locs cells slots mc ms (F0 m pc ls st0) rest (CQ G r a) (gA G)) (hS : va_S (gA G) s.heap H locs)
    (kk : ∀ (H1 : Heap) (locs1 : List Loc), (∀ v, r.1 = some v → okV r.2.1 v) → Rel G r.2.1 r.2.2 H1 → va_S (gA G) s.heap H1 locs1 → W p l e R s m args below meth c H1 locs1 (cells + mc) (slots + ms) Q (F0 m (pc + 3) ls ((r.1.map (cv G)).toList ++ rest))) : W p l e R s m args below meth c H locs cells slots Q (F0 m pc ls st0) := by
  intro T hT X
  obtain ⟨v, st₀, t, T', L, h0, X', hL, e1, e2, ⟨hv, hok, hR, hz, hk⟩, st⟩ := hr T hT X
  cases hv
  rw [h0] at hz hk
  obtain ⟨t2, a1, b1⟩ := kk T'.heap (locs ++ L) hok (by rw [e1]; exact hR)
    ⟨Nat.le_trans hS.1 (by rw [e1]; exact hz), fun q h1 h2 => by rw [e1, hk q (Nat.lt_of_lt_of_le h1 hS.1) h2]; exact hS.2.1 q h1 h2, fun q hq => by
      rcases List.mem_append.mp hq with h | h
      · exact hS.2.2 q h
      · exact hL q h⟩ T' rfl X'
  exact ⟨t2, st t2 a1, b1⟩
theorem s_call {G : GG} {p : Program} {l : Launch} {e : Env} {R : Room} {s : State} {m : MethodId} {args : Array Value} {below : List Frame} {meth : Method} {c : Code} {Q : State → Prop} {y pc cells slots : Nat} {L : Lv} {as r : List AV} {S : Sh} {h : Mem} {ix y' d : Nat} {i : Instr} {vs : List AV} {res : Res}
    (hcat : catS r ≤ 8) (hok : clOk (mdN y).1.cls ix y' as.length) (hM : CT G l d y' vs S h res) (hf : d + 2 ≤ R.frames) (hl : (d + 2) * 64 ≤ R.locals) (hg : S.length ≤ res.2.1.length) (hz : s.heap.size + cells = gz G + (S.length - 1)) (hc1 : cells + (res.2.1.length - S.length) ≤ R.cells) (hc2 : slots + (slt res.2.1 - slt S) ≤ R.slots)
    (hkind : (i = .invokestatic ix ∧ vs = as.reverse ∧ Cond.static (mdN y').1 ∈ TG) ∨
      (∃ a : Int, vs = .inr (.inr a) :: as.reverse ∧ ((i = .invokevirtual ix ∧ Cond.instanceMethod (mdN y').1 ∈ TG ∧ Cond.selects (mdN y').1.cls (mdN y').1 (mdN y').1 ∈ TG ∧ ((∃ ci, ci < 12 ∧ kd S a = ci ∧ (mdN y').1.cls = (clN ci).1) ∨ ((a = -8 ∨ a = -9) ∧ (mdN y').1.cls = "java/lang/String"))) ∨
        (i = .invokespecial ix ∧ Cond.instanceMethod (mdN y').1 ∈ TG ∧ (mdN y').1.name = "<init>" ∧ (mdN y').2.2.2 = none ∧ ∃ ci, ci < 12 ∧ kd S a = ci))))
    (hd : decode (mdN y).2.1 pc = .ok (i, 3)) (F : XFC G p s m args meth c y R)
    (k : WC G p l e R s m args below meth c Q y (pc + 3) L (res.1.toList ++ r) res.2.1 res.2.2 (cells + (res.2.1.length - S.length)) (slots + (slt res.2.1 - slt S))) :
    WC G p l e R s m args below meth c Q y pc L (as ++ (vs.take (vs.length - as.length)).reverse ++ r) S h cells slots := by
  intro ls H locs ⟨hR, hS, hL, hV⟩
  obtain ⟨hx, hb, hml, hown, hts, hC, hini, hfr, hlo⟩ := F
  refine W_size fun hs => ?_
  have hsz := Rel_size hC hR hS hz hs
  have hVr : ∀ v ∈ r, okV S v := fun v hv => hV v (List.mem_append_right _ hv)
  have hvs : ∀ v ∈ vs, okV S v := by
    intro v hv
    rcases hkind with ⟨-, rfl, -⟩ | ⟨a, rfl, -⟩
    · exact hV v (List.mem_append_left _ (List.mem_append_left _ (List.mem_reverse.mp hv)))
    · rcases List.mem_cons.mp hv with rfl | hv
      · refine hV _ (List.mem_append_left _ (List.mem_append_right _ (List.mem_reverse.mpr ?_)))
        rw [show ((Sum.inr (Sum.inr a) : AV) :: as.reverse).length - as.length = 1 by simp]
        exact List.mem_cons_self
      · exact hV v (List.mem_append_left _ (List.mem_append_left _ (List.mem_reverse.mp hv)))
  have fix : CallFix p m c (mdN y).2.1 (mdN y).2.2.1 s args TG (mdN y).1.cls := ⟨hx, hb, hml, hown, hts⟩
  have hpre : ∀ U : State, U.heap = H → s.WarmedH U.vm → CP G vs S h (vs.map (cv G)).toArray U := fun U hU hW => CP_at hC hR hS hsz hvs hU hW
  have hroom := lv_room (m := m) (pc := pc) (ls := ls) (rest := (as ++ (vs.take (vs.length - as.length)).reverse ++ r).map (cv G)) (st := r.map (cv G)) (by rw [cat_sum (CX_ro hC) r hVr]; exact hcat)
  have hcw : CallB R s args (mdN y).1.cls ix (mdN y').1 (mdN y').2.1 (mdN y').2.2.1 (mdN y').2.2.2 (wsY y') (rmD d (res.2.1.length - S.length) (slt res.2.1 - slt S)) (res.2.1.length - S.length) (slt res.2.1 - slt S) as.length := cb_of hts hok hf hl
  have goOn : va_Run p l e R s m args below meth c H locs cells slots (res.2.1.length - S.length) (slt res.2.1 - slt S) (F0 m pc ls ((as ++ (vs.take (vs.length - as.length)).reverse ++ r).map (cv G))) (r.map (cv G)) (CQ G res (vs.map (cv G)).toArray) (gA G) → W p l e R s m args below meth c H locs cells slots Q (F0 m pc ls ((as ++ (vs.take (vs.length - as.length)).reverse ++ r).map (cv G))) := by
    intro hr
    refine am_goOn hr hS fun H1 locs1 hv hR1 hS1 => ?_
    have h2 := k ls H1 locs1 ⟨hR1, hS1, LR_mono hg hL, fun v hv2 => by
      rcases List.mem_append.mp hv2 with z | z
      · exact hv v (by simpa using z)
      · exact okV_mono hg (hVr v z)⟩
    rw [List.map_append] at h2
    have e : (res.1.toList).map (cv G) = (res.1.map (cv G)).toList := by cases res.1 <;> rfl
    rw [e] at h2
    exact h2
  apply goOn
  rcases hkind with ⟨rfl, rfl, hst⟩ | ⟨a, rfl, hk⟩
  · have he : ((as ++ (as.reverse.take (as.reverse.length - as.length)).reverse ++ r).map (cv G)) = (as.reverse.map (cv G)).reverse ++ r.map (cv G) := by simp [List.map_reverse]
    exact va_runS (As := as.reverse.map (cv G)) fix hM ⟨hcw, hts _ hst⟩ ⟨CP_blind G _ S h, hpre⟩ rfl (by simp) hL.2.1.1 he hroom hd ⟨hc1, hc2⟩
  · have e0 : ((Sum.inr (Sum.inr a) : AV) :: as.reverse).take (((Sum.inr (Sum.inr a) : AV) :: as.reverse).length - as.length) = [.inr (.inr a)] := by
      simp
    rw [e0] at hroom ⊢
    have he : ((as ++ [(Sum.inr (Sum.inr a) : AV)].reverse ++ r).map (cv G)) = (as.reverse.map (cv G)).reverse ++ cv G (.inr (.inr a)) :: r.map (cv G) := by simp [List.map_reverse]
    rcases hk with ⟨rfl, hin, hse, hk⟩ | ⟨rfl, hin, hnm, hnone, ci, hci, hk⟩
    · rcases hk with ⟨ci, hci, hk, hcls⟩ | ⟨ha, hcls⟩
      · obtain ⟨n, hq, -⟩ := kd_get hk (by omega)
        obtain ⟨ha, ha'⟩ := kd_pos hR.1 hq (by omega)
        have hw := ws_at (G := G) (h := h) ha' hq
        rw [cell_o hci] at hw
        have hrecv := va_recv hC.1 hR.2.2 (cl_at hci) hw
        rw [← hcls] at hrecv
        rw [cv_ref ha] at he
        have hpre' : ∀ U : State, U.heap = H → s.WarmedH U.vm → CP G (.inr (.inr a) :: as.reverse) S h (Value.ref (gz G + (a.toNat - 1)) :: as.reverse.map (cv G)).toArray U := fun U hU hW => by
          have := hpre U hU hW
          rwa [List.map_cons, cv_ref ha] at this
        have := va_runV (As := as.reverse.map (cv G)) (b := gz G + (a.toNat - 1)) (C := (mdN y').1.cls) (g := F0 m pc ls ((as ++ [(Sum.inr (Sum.inr a) : AV)].reverse ++ r).map (cv G))) (cells := cells) (slots := slots) (locs := locs) (below := below) (meth := meth) (e := e) fix hM ⟨hcw, hts _ hin, hts _ hse⟩ ⟨CP_blind G _ S h, hrecv, hpre'⟩ rfl (by simp) hL.2.1.1 he hroom hd ⟨hc1, hc2⟩
        rw [List.map_cons, cv_ref ha]
        exact this
      · obtain ⟨t, hg2, hrecv⟩ : ∃ t : Nat, gR G a = .ref t ∧ ∃ cell : Cell, H[t]? = some cell ∧ cell.vm.isStatics = false ∧ s.vm.findClass "java/lang/String" = some cell.cls := by
          obtain ⟨-, -, -, -, -, -, -, ⟨q1, t1, a1, -, -, o1, -⟩, ⟨q2, t2, a2, -, -, o2, -⟩, -⟩ := hC
          rcases ha with rfl | rfl
          · obtain ⟨cell, h1, h2, h3, h4⟩ := o1
            exact ⟨q1, a1, cell, by rw [hS.2.1 q1 (Array.getElem?_eq_some_iff.mp h1).1 h4]; exact h1, h2, h3⟩
          · obtain ⟨cell, h1, h2, h3, h4⟩ := o2
            exact ⟨q2, a2, cell, by rw [hS.2.1 q2 (Array.getElem?_eq_some_iff.mp h1).1 h4]; exact h1, h2, h3⟩
        have ea : cv G (.inr (.inr a)) = .ref t := by rw [cv_ro (by omega)]; exact hg2
        rw [ea] at he
        rw [← hcls] at hrecv
        have hpre' : ∀ U : State, U.heap = H → s.WarmedH U.vm → CP G (.inr (.inr a) :: as.reverse) S h (Value.ref t :: as.reverse.map (cv G)).toArray U := fun U hU hW => by
          have := hpre U hU hW
          rwa [List.map_cons, ea] at this
        have := va_runV (As := as.reverse.map (cv G)) (b := t) (C := (mdN y').1.cls) (g := F0 m pc ls ((as ++ [(Sum.inr (Sum.inr a) : AV)].reverse ++ r).map (cv G))) (cells := cells) (slots := slots) (locs := locs) (below := below) (meth := meth) (e := e) fix hM ⟨hcw, hts _ hin, hts _ hse⟩ ⟨CP_blind G _ S h, hrecv, hpre'⟩ rfl (by simp) hL.2.1.1 he hroom hd ⟨hc1, hc2⟩
        rw [List.map_cons, ea]
        exact this
    · obtain ⟨n, hq, -⟩ := kd_get hk (by omega)
      obtain ⟨ha, ha'⟩ := kd_pos hR.1 hq (by omega)
      rw [cv_ref ha] at he
      have hpre' : ∀ U : State, U.heap = H → s.WarmedH U.vm → CP G (.inr (.inr a) :: as.reverse) S h (Value.ref (gz G + (a.toNat - 1)) :: as.reverse.map (cv G)).toArray U := fun U hU hW => by
        have := hpre U hU hW
        rwa [List.map_cons, cv_ref ha] at this
      rw [hnone] at hcw
      have := va_runI (As := as.reverse.map (cv G)) (b := gz G + (a.toNat - 1)) (g := F0 m pc ls ((as ++ [(Sum.inr (Sum.inr a) : AV)].reverse ++ r).map (cv G))) (cells := cells) (slots := slots) (locs := locs) (below := below) (meth := meth) (e := e) fix hM ⟨hcw, hnm, hts _ hin⟩ ⟨CP_blind G _ S h, hpre'⟩ rfl (by simp) hL.2.1.1 he hroom hd ⟨hc1, hc2⟩
      rw [List.map_cons, cv_ref ha]
      exact this
