/-! rows: constants of the pool, statics, switches, what is made, arraycopy, calls, ends (written by wip/tools/gensim4.py) -/
def slt (S : Sh) : Nat := (S.map (fun q => q.2)).sum
theorem slt_app (S T : Sh) : slt (S ++ T) = slt S + slt T := by simp [slt]
theorem W_size {p : Program} {l : Launch} {e : Env} {R : Room} {s : State} {m : MethodId} {args : Array Value} {below : List Frame} {meth : Method} {c : Code} {H : Heap} {locs : List Loc} {cells slots : Nat} {Q : State → Prop} {g : JFrame} (k : H.size ≤ s.heap.size + cells → W p l e R s m args below meth c H locs cells slots Q g) : W p l e R s m args below meth c H locs cells slots Q g :=
  fun T hT X => k (by rw [← hT]; exact X.heapSize) T hT X
theorem Rel_size {G : GG} {s : State} {S : Sh} {h : Mem} {H : Heap} {locs : List Loc} {cells : Nat} (hC : CX G s) (hR : Rel G S h H) (hS : va_S (gA G) s.heap H locs) (hz : s.heap.size + cells = gz G + (S.length - 1)) (hs : H.size ≤ s.heap.size + cells) : H.size = gz G + (S.length - 1) := by
  have h1 : gz G + (S.length - 1) ≤ H.size := by
    by_cases hl : S.length ≤ 1
    · have := hC.2.1
      have := hS.1
      omega
    · have hq : ∃ q, S[S.length - 1]? = some q := ⟨S[S.length - 1], List.getElem?_eq_getElem (by omega)⟩
      obtain ⟨q, hq⟩ := hq
      have := (hR.2.2 _ _ (ws_at (G := G) (h := h) (by omega) hq)).lt
      simp only at this
      omega
  omega
theorem ws_push {G : GG} {S : Sh} {h : Mem} (q : Nat × Nat) (hS : 0 < S.length) : wsG G (S ++ [q]) h = wsG G S h ++ [(gz G + (S.length - 1), cellG G q (h S.length))] := by
  apply List.ext_getElem?
  intro i
  by_cases hi : i < S.length - 1
  · rw [List.getElem?_append_left (by rw [ws_len]; exact hi)]
    have h1 : S[i + 1]? = some S[i + 1] := List.getElem?_eq_getElem (by omega)
    have h2 : (S ++ [q])[i + 1]? = some S[i + 1] := by rw [List.getElem?_append_left (by omega)]; exact h1
    have e1 := ws_at (G := G) (h := h) (Nat.succ_pos i) h1
    have e2 := ws_at (G := G) (h := h) (Nat.succ_pos i) h2
    exact e2.trans e1.symm
  · by_cases hi2 : i = S.length - 1
    · have h2 : (S ++ [q])[S.length]? = some q := by simp
      have e2 := ws_at (G := G) (h := h) hS h2
      rw [hi2, e2, List.getElem?_append_right (by rw [ws_len]; omega), ws_len, Nat.sub_self]
      rfl
    · rw [List.getElem?_eq_none (by rw [ws_len, List.length_append]; simp; omega), List.getElem?_eq_none (by rw [List.length_append, ws_len]; simp; omega)]
theorem okT_mono {n n' t : Nat} {x : Int} (hn : n ≤ n') (h : xkT n t x) : xkT n' t x := by
  unfold xkT at *
  split at h <;> first | exact h | (exact ⟨h.1, by omega⟩)
theorem okM_push {S : Sh} {h : Mem} (q : Nat × Nat) (hM : okM S h) : okM (S ++ [q]) h := by
  refine ⟨fun k p hp j hj => ?_, fun k hk j => hM.2 k (by rw [List.length_append] at hk; simp at hk; omega) j⟩
  by_cases hl : k < S.length
  · rw [List.getElem?_append_left hl] at hp
    exact okT_mono (by rw [List.length_append]; omega) (hM.1 k p hp j hj)
  · have e : k = S.length := by
      have := (List.getElem?_eq_some_iff.mp hp).1
      rw [List.length_append] at this
      simp at this
      omega
    rw [hM.2 k (by omega) j]
    unfold xkT
    split <;> first | (unfold xkI; omega) | (unfold okJ; omega) | omega | (rw [List.length_append]; simp) | (rw [List.length_append]; simp; omega)
theorem okS_push {S : Sh} {q : Nat × Nat} (hS : xkS S) (hq : (q.1 < 12 ∧ (vwCl[q.1]?).map (fun r => r.2.2) = some q.2) ∨ (20 ≤ q.1 ∧ q.1 ≤ 25 ∧ q.2 ≤ 100000)) : xkS (S ++ [q]) := by
  have h0 : 0 < S.length := (List.getElem?_eq_some_iff.mp hS.1).1
  refine ⟨by rw [List.getElem?_append_left h0]; exact hS.1, fun k p hk hp => ?_⟩
  by_cases hl : k < S.length
  · rw [List.getElem?_append_left hl] at hp
    exact hS.2 k p hk hp
  · rw [List.getElem?_append_right (by omega)] at hp
    have e : k - S.length < 1 := (List.getElem?_eq_some_iff.mp hp).1
    rw [show k - S.length = 0 by omega] at hp
    cases hp
    exact hq
theorem LR_mono {G : GG} {S S' : Sh} {nL : Nat} {ls : Array Slot} {L : Lv} (hn : S.length ≤ S'.length) (h : LR G S nL ls L) : LR G S' nL ls L := ⟨h.1, h.2.1, fun v hv => okV_mono hn (h.2.2 v hv)⟩
theorem Rel_push {G : GG} {S : Sh} {h : Mem} {H H1 : Heap} {q : Nat × Nat} (hR : Rel G S h H) (hq : (q.1 < 12 ∧ (vwCl[q.1]?).map (fun r => r.2.2) = some q.2) ∨ (20 ≤ q.1 ∧ q.1 ≤ 25 ∧ q.2 ≤ 100000)) (hsz : H.size = gz G + (S.length - 1))
    (ho : ∀ x, x < H.size → H1[x]? = H[x]?) (hn : va_at (gD G) vwCl (gz G + (S.length - 1), cellG G q (fun _ => 0)) H1) : Rel G (S ++ [q]) h H1 := by
  have h0 : 0 < S.length := (List.getElem?_eq_some_iff.mp hR.1.1).1
  refine ⟨okS_push hR.1 hq, okM_push q hR.2.1, ?_⟩
  rw [ws_push q h0]
  refine (hR.2.2.kept (fun k x hx => ho x.1 ((hR.2.2 k x hx).lt))).app (fun k x hx => ?_)
  have hz : k < 1 := (List.getElem?_eq_some_iff.mp hx).1
  rw [show k = 0 by omega] at hx
  cases hx
  have e : h S.length = fun _ => 0 := funext fun j => hR.2.1.2 S.length (Nat.le_refl _) j
  rw [e]
  exact hn
theorem va_S_push {G : GG} {s : State} {H H1 : Heap} {locs : List Loc} (hS : va_S (gA G) s.heap H locs) (hz : H.size ≤ H1.size) (ho : ∀ x, x < H.size → H1[x]? = H[x]?) : va_S (gA G) s.heap H1 locs :=
  ⟨Nat.le_trans hS.1 hz, fun x h1 h2 => (ho x (Nat.lt_of_lt_of_le h1 hS.1)).trans (hS.2.1 x h1 h2), hS.2.2⟩
theorem s_ldcI {G : GG} {p : Program} {l : Launch} {e : Env} {R : Room} {s : State} {m : MethodId} {args : Array Value} {below : List Frame} {meth : Method} {c : Code} {Q : State → Prop} {y pc cells slots : Nat} {L : Lv} {r : List AV} {S : Sh} {h : Mem} {ix : Nat} {v : Int} (hv : xkI v) (hc : Cond.constant (mdN y).1.cls ix (Int32.ofInt v) ∈ TG) (hd : decode (mdN y).2.1 pc = .ok (.ldc ix, 2)) (F : XFC G p s m args meth c y R)
    (k : WC G p l e R s m args below meth c Q y (pc + 2) L (.inl v :: r) S h cells slots) : WC G p l e R s m args below meth c Q y pc L r S h cells slots := by
  intro ls H locs ⟨hR, hS, hL, hV⟩
  obtain ⟨hx, hb, hml, hown, hts, hC, hini, hfr, hlo⟩ := F
  exact lv_ldc hx hb hown (hts _ hc) hd (k ls H locs ⟨hR, hS, hL, List.forall_mem_cons.mpr ⟨hv, hV⟩⟩)
theorem s_ldcW {G : GG} {p : Program} {l : Launch} {e : Env} {R : Room} {s : State} {m : MethodId} {args : Array Value} {below : List Frame} {meth : Method} {c : Code} {Q : State → Prop} {y pc cells slots : Nat} {L : Lv} {r : List AV} {S : Sh} {h : Mem} {ix : Nat} {v : Int} (hv : xkI v) (hc : Cond.constant (mdN y).1.cls ix (Int32.ofInt v) ∈ TG) (hd : decode (mdN y).2.1 pc = .ok (.ldc_w ix, 3)) (F : XFC G p s m args meth c y R)
    (k : WC G p l e R s m args below meth c Q y (pc + 3) L (.inl v :: r) S h cells slots) : WC G p l e R s m args below meth c Q y pc L r S h cells slots := by
  intro ls H locs ⟨hR, hS, hL, hV⟩
  obtain ⟨hx, hb, hml, hown, hts, hC, hini, hfr, hlo⟩ := F
  exact lv_ldcw hx hb hown (hts _ hc) hd (k ls H locs ⟨hR, hS, hL, List.forall_mem_cons.mpr ⟨hv, hV⟩⟩)
theorem s_ldc2 {G : GG} {p : Program} {l : Launch} {e : Env} {R : Room} {s : State} {m : MethodId} {args : Array Value} {below : List Frame} {meth : Method} {c : Code} {Q : State → Prop} {y pc cells slots : Nat} {L : Lv} {r : List AV} {S : Sh} {h : Mem} {ix : Nat} {v : Int} (hv : okJ v) (hc : Cond.constantLong (mdN y).1.cls ix (Int64.ofInt v) ∈ TG) (hd : decode (mdN y).2.1 pc = .ok (.ldc2_w ix, 3)) (F : XFC G p s m args meth c y R)
    (k : WC G p l e R s m args below meth c Q y (pc + 3) L (.inr (.inl v) :: r) S h cells slots) : WC G p l e R s m args below meth c Q y pc L r S h cells slots := by
  intro ls H locs ⟨hR, hS, hL, hV⟩
  obtain ⟨hx, hb, hml, hown, hts, hC, hini, hfr, hlo⟩ := F
  exact lv_ldc2 hx hb hown (hts _ hc) hd (k ls H locs ⟨hR, hS, hL, List.forall_mem_cons.mpr ⟨hv, hV⟩⟩)
theorem s_ldcS {G : GG} {p : Program} {l : Launch} {e : Env} {R : Room} {s : State} {m : MethodId} {args : Array Value} {below : List Frame} {meth : Method} {c : Code} {Q : State → Prop} {y pc cells slots : Nat} {L : Lv} {r : List AV} {S : Sh} {h : Mem} {ix : Nat} {v : Int} (hv : ((mdN y).1.cls = "BestMenDuel$Tokens" ∧ ix = 29 ∧ v = -8) ∨ ((mdN y).1.cls = "BestMenDuelModel" ∧ ix = 183 ∧ v = -9)) (hd : decode (mdN y).2.1 pc = .ok (.ldc ix, 2)) (F : XFC G p s m args meth c y R)
    (k : WC G p l e R s m args below meth c Q y (pc + 2) L (.inr (.inr v) :: r) S h cells slots) : WC G p l e R s m args below meth c Q y pc L r S h cells slots := by
  intro ls H locs ⟨hR, hS, hL, hV⟩
  obtain ⟨hx, hb, hml, hown, hts, hC, hini, hfr, hlo⟩ := F
  obtain ⟨-, hz, -, -, -, -, -, ⟨q1, t1, a1, -, r1, -⟩, ⟨q2, t2, a2, -, r2, -⟩, -⟩ := hC
  have h0 : 0 < S.length := (List.getElem?_eq_some_iff.mp hR.1.1).1
  rcases hv with ⟨e1, rfl, rfl⟩ | ⟨e1, rfl, rfl⟩
  · have h2 := k ls H locs ⟨hR, hS, hL, List.forall_mem_cons.mpr ⟨⟨by omega, by omega⟩, hV⟩⟩
    rw [List.map_cons, cv_ro (by decide), a1] at h2
    rw [e1] at hown
    exact va_ldcS hx hb hown r1 hd h2
  · have h2 := k ls H locs ⟨hR, hS, hL, List.forall_mem_cons.mpr ⟨⟨by omega, by omega⟩, hV⟩⟩
    rw [List.map_cons, cv_ro (by decide), a2] at h2
    rw [e1] at hown
    exact va_ldcS hx hb hown r2 hd h2
theorem s_getS {G : GG} {p : Program} {l : Launch} {e : Env} {R : Room} {s : State} {m : MethodId} {args : Array Value} {below : List Frame} {meth : Method} {c : Code} {Q : State → Prop} {y pc cells slots : Nat} {L : Lv} {r : List AV} {S : Sh} {h : Mem} {ix : Nat} {a : Int} {sl : Nat} (ha : a = -8 ∨ a = -9) (hs : ((mdN y).1.cls = "java/lang/String") ∧ ((sl = 0 ∧ Cond.fieldLink "java/lang/String" ix "java/lang/String" "value" "[B" ∈ TG) ∨ (sl ≠ 0 ∧ Cond.fieldLink "java/lang/String" ix "java/lang/String" "coder" "B" ∈ TG))) (hd : decode (mdN y).2.1 pc = .ok (.getfield ix, 3)) (F : XFC G p s m args meth c y R)
    (k : WC G p l e R s m args below meth c Q y (pc + 3) L ((if sl = 0 then .inr (.inr (a + 2)) else .inl 0) :: r) S h cells slots) : WC G p l e R s m args below meth c Q y pc L (.inr (.inr a) :: r) S h cells slots := by
  intro ls H locs ⟨hR, hS, hL, hV⟩
  obtain ⟨hx, hb, hml, hown, hts, hC, hini, hfr, hlo⟩ := F
  obtain ⟨hva, hU⟩ := List.forall_mem_cons.mp hV
  have h0 : 0 < S.length := (List.getElem?_eq_some_iff.mp hR.1.1).1
  obtain ⟨-, hz, -, -, -, -, -, ⟨q1, t1, a1, b1, -, -, v1, c1, -⟩, ⟨q2, t2, a2, b2, -, -, v2, c2, -⟩, -⟩ := hC
  obtain ⟨e1, hs⟩ := hs
  rw [e1] at hown
  have h2 := k ls H locs ⟨hR, hS, hL, List.forall_mem_cons.mpr ⟨by
    split
    · exact ⟨by omega, fun _ => by omega⟩
    · exact okI_0, hU⟩⟩
  rw [List.map_cons, cv_ro (by omega)]
  rcases hs with ⟨e, hl⟩ | ⟨e, hl⟩
  · rw [if_pos e, List.map_cons, cv_ro (by omega)] at h2
    rcases ha with rfl | rfl
    · rw [a1]
      rw [show (-8 : Int) + 2 = -6 by decide, b1] at h2
      exact vk_getf hx hb v1 hS hown (hts _ hl) (fun _ h9 => h9) hd h2
    · rw [a2]
      rw [show (-9 : Int) + 2 = -7 by decide, b2] at h2
      exact vk_getf hx hb v2 hS hown (hts _ hl) (fun _ h9 => h9) hd h2
  · rw [if_neg e] at h2
    rcases ha with rfl | rfl
    · rw [a1]
      exact vk_getf hx hb c1 hS hown (hts _ hl) (fun _ h9 => h9) hd h2
    · rw [a2]
      exact vk_getf hx hb c2 hS hown (hts _ hl) (fun _ h9 => h9) hd h2
def gsOk (cls : String) (ix : Nat) (t : Nat) (v : Int) : Prop :=
  (Cond.fieldLink cls ix (gsN v).1 (gsN v).2.1 (gsN v).2.2 ∈ TG ∧ ((t = 1 ∧ (v = -3 ∨ v = -4 ∨ v = -10)) ∨ (t = 0 ∧ v = 1))) ∨ (t = 1 ∧ ((cls = "BestMenDuel$Dawn" ∧ ix = 66 ∧ v = -5) ∨ (cls = "BestMenDuel$DawnReader" ∧ ix = 60 ∧ v = -3) ∨ (cls = "BestMenDuel$DawnReader" ∧ ix = 64 ∧ v = -4) ∨ (cls = "BestMenDuel$YearsReader" ∧ ix = 108 ∧ v = -4)))
theorem s_gets {G : GG} {p : Program} {l : Launch} {e : Env} {R : Room} {s : State} {m : MethodId} {args : Array Value} {below : List Frame} {meth : Method} {c : Code} {Q : State → Prop} {y pc cells slots : Nat} {L : Lv} {r : List AV} {S : Sh} {h : Mem} {ix t : Nat} {v : Int} (hv : gsOk (mdN y).1.cls ix t v) (hd : decode (mdN y).2.1 pc = .ok (.getstatic ix, 3)) (F : XFC G p s m args meth c y R)
    (k : WC G p l e R s m args below meth c Q y (pc + 3) L ((if t = 1 then .inr (.inr v) else .inl v) :: r) S h cells slots) : WC G p l e R s m args below meth c Q y pc L r S h cells slots := by
  intro ls H locs ⟨hR, hS, hL, hV⟩
  obtain ⟨hx, hb, hml, hown, hts, hC, hini, hfr, hlo⟩ := F
  have h0 : 0 < S.length := (List.getElem?_eq_some_iff.mp hR.1.1).1
  obtain ⟨-, hz, -, -, ⟨t3, a3, z3, -⟩, ⟨t4, a4, z4, -⟩, ⟨t5, a5, z5, -⟩, -, -, ⟨g1, g2, -⟩, ⟨n1, n2, n3, n4⟩, -⟩ := hC
  have ok : okV S (if t = 1 then .inr (.inr v) else .inl v) := by
    unfold gsOk at hv
    split
    · next e => exact ⟨by omega, fun _ => by omega⟩
    · next e => show xkI v; unfold xkI; omega
  have h2 := k ls H locs ⟨hR, hS, hL, List.forall_mem_cons.mpr ⟨ok, hV⟩⟩
  rcases hv with ⟨hl, ⟨e, rfl | rfl | rfl⟩ | ⟨e, rfl⟩⟩ | ⟨e, ⟨e1, rfl, rfl⟩ | ⟨e1, rfl, rfl⟩ | ⟨e1, rfl, rfl⟩ | ⟨e1, rfl, rfl⟩⟩
  · rw [if_pos e, List.map_cons, cv_ro (by decide), a3] at h2
    exact va_gets hx hb z3 hS hown (hts _ hl) (fun _ h9 => h9) hd h2
  · rw [if_pos e, List.map_cons, cv_ro (by decide), a4] at h2
    exact va_gets hx hb z4 hS hown (hts _ hl) (fun _ h9 => h9) hd h2
  · rw [if_pos e, List.map_cons, cv_ro (by decide)] at h2
    exact va_gets hx hb g2 hS hown (hts _ hl) (fun _ h9 => h9) hd h2
  · rw [if_neg (by omega)] at h2
    exact va_gets hx hb g1 hS hown (hts _ hl) (fun _ h9 => h9) hd h2
  · rw [if_pos e, List.map_cons, cv_ro (by decide), a5] at h2
    rw [e1] at hown
    exact va_getsN hx hb z5 hS hown (n1.use rfl) (fun _ h9 => h9) hd h2
  · rw [if_pos e, List.map_cons, cv_ro (by decide), a3] at h2
    rw [e1] at hown
    exact va_getsN hx hb z3 hS hown (n2.use rfl) (fun _ h9 => h9) hd h2
  · rw [if_pos e, List.map_cons, cv_ro (by decide), a4] at h2
    rw [e1] at hown
    exact va_getsN hx hb z4 hS hown (n3.use rfl) (fun _ h9 => h9) hd h2
  · rw [if_pos e, List.map_cons, cv_ro (by decide), a4] at h2
    rw [e1] at hown
    exact va_getsN hx hb z4 hS hown (n4.use rfl) (fun _ h9 => h9) hd h2
theorem s_table {G : GG} {p : Program} {l : Launch} {e : Env} {R : Room} {s : State} {m : MethodId} {args : Array Value} {below : List Frame} {meth : Method} {c : Code} {Q : State → Prop} {y pc cells slots : Nat} {L : Lv} {r : List AV} {S : Sh} {h : Mem} {a d lo hi : Int} {offs : Array Int} {len : Nat} {o : Int} (hj : 0 ≤ (pc : Int) + o) (ho : ((a < lo ∨ hi < a) ∧ o = d) ∨ (¬ a < lo ∧ ¬ hi < a ∧ offs[(a - lo).toNat]? = some o)) (hd : decode (mdN y).2.1 pc = .ok (.tableswitch d lo hi offs, len))  (F : XFC G p s m args meth c y R)
    (k : WC G p l e R s m args below meth c Q y (tgt pc o) L r S h cells slots) : WC G p l e R s m args below meth c Q y pc L (.inl a :: r) S h cells slots := by
  intro ls H locs ⟨hR, hS, hL, hV⟩
  obtain ⟨hx, hb, hml, hown, hts, hC, hini, hfr, hlo⟩ := F
  obtain ⟨hva, hU⟩ := List.forall_mem_cons.mp hV
  have h2 := k ls H locs ⟨hR, hS, hL, hU⟩
  have ht : (pc : Int) + o = (tgt pc o : Int) := by unfold tgt; omega
  rcases ho with ⟨h1, rfl⟩ | ⟨h1, h3, h4⟩
  · exact lv_tableOut hx hb hd (by rw [toI hva]; exact h1) ht h2
  · exact lv_tableIn hx hb hd (by rw [toI hva]; exact h1) (by rw [toI hva]; exact h3) (by rw [toI hva]; exact h4) ht h2
theorem s_lookup {G : GG} {p : Program} {l : Launch} {e : Env} {R : Room} {s : State} {m : MethodId} {args : Array Value} {below : List Frame} {meth : Method} {c : Code} {Q : State → Prop} {y pc cells slots : Nat} {L : Lv} {r : List AV} {S : Sh} {h : Mem} {a d : Int} {ps : Array (Int × Int)} {len : Nat} {o : Int} (hj : 0 ≤ (pc : Int) + o) (hp : (ps.toList.zip (ps.toList.drop 1)).all (fun (a, next) => a.1 < next.1) = true) (ho : Op.lookupswitch.offset ps.toList d a = o) (hd : decode (mdN y).2.1 pc = .ok (.lookupswitch d ps, len))  (F : XFC G p s m args meth c y R)
    (k : WC G p l e R s m args below meth c Q y (tgt pc o) L r S h cells slots) : WC G p l e R s m args below meth c Q y pc L (.inl a :: r) S h cells slots := by
  intro ls H locs ⟨hR, hS, hL, hV⟩
  obtain ⟨hx, hb, hml, hown, hts, hC, hini, hfr, hlo⟩ := F
  obtain ⟨hva, hU⟩ := List.forall_mem_cons.mp hV
  have h2 := k ls H locs ⟨hR, hS, hL, hU⟩
  have ht : (pc : Int) + o = (tgt pc o : Int) := by unfold tgt; omega
  exact lv_lookup hx hb hd hp (by rw [toI hva]; exact ho) ht h2
theorem cat_sum {G : GG} {S : Sh} (hG : ∀ r : Int, -10 ≤ r → r ≤ -2 → (gR G r).category = 1) : ∀ (st : List AV), (∀ v ∈ st, okV S v) → ((st.map (cv G)).map fun v => v.category).sum = catS st
  | [], _ => rfl
  | v :: st, h => by
    obtain ⟨h1, h2⟩ := List.forall_mem_cons.mp h
    have e : (cv G v).category = cat v := by
      rcases (show cat v = 1 ∨ cat v = 2 by unfold cat; split <;> omega) with z | z
      · rw [z]; exact cat_cv1 hG h1 z
      · rw [z]
        match v, z with
        | .inr (.inl x), _ => rfl
        | .inl x, z => cases z
        | .inr (.inr x), z => cases z
    simp only [List.map_cons, List.sum_cons, catS]
    rw [e, cat_sum hG st h2]
    rfl
theorem TG_oi : Cond.instanceMethod objectInit ∈ TG ∧ Cond.code objectInit ⟨#[0xb1]⟩ 1 none ∈ TG ∧ Cond.native arraycopyName ∈ TG ∧ Cond.static arraycopyName ∈ TG ∧ Cond.initialized "java/lang/System" ∈ TG := by
  refine ⟨TG_of (List.mem_of_getElem? (i := 147) (by decide +kernel)) rfl, TG_of (List.mem_of_getElem? (i := 148) (by decide +kernel)) rfl, TG_of (List.mem_of_getElem? (i := 382) (by decide +kernel)) rfl, TG_of (List.mem_of_getElem? (i := 381) (by decide +kernel)) rfl, TG_of (List.mem_of_getElem? (i := 132) (by decide +kernel)) rfl⟩
theorem s_objInit {G : GG} {p : Program} {l : Launch} {e : Env} {R : Room} {s : State} {m : MethodId} {args : Array Value} {below : List Frame} {meth : Method} {c : Code} {Q : State → Prop} {y pc cells slots : Nat} {L : Lv} {r : List AV} {S : Sh} {h : Mem} {a : Int} {ix ci : Nat} (hci : ci < 12) (hk : kd S a = ci) (hcat : catS r ≤ 8) (hlink : Cond.methodLink (mdN y).1.cls ix objectInit ∈ TG) (hd : decode (mdN y).2.1 pc = .ok (.invokespecial ix, 3)) (F : XFC G p s m args meth c y R)
    (k : WC G p l e R s m args below meth c Q y (pc + 3) L r S h cells slots) : WC G p l e R s m args below meth c Q y pc L (.inr (.inr a) :: r) S h cells slots := by
  intro ls H locs ⟨hR, hS, hL, hV⟩
  obtain ⟨hx, hb, hml, hown, hts, hC, hini, hfr, hlo⟩ := F
  obtain ⟨hva, hU⟩ := List.forall_mem_cons.mp hV
  obtain ⟨n, hq, -⟩ := kd_get hk (by omega)
  obtain ⟨ha, ha'⟩ := kd_pos hR.1 hq (by omega)
  have h2 := k ls H locs ⟨hR, hS, hL, hU⟩
  rw [List.map_cons, cv_ref ha]
  refine W.objInit hx hb hown (hts _ hlink) (hts _ TG_oi.1) (hts _ TG_oi.2.1) rfl (by rw [hml]; exact hL.2.1.1) rfl hd hfr ?_ h2
  have h3 := lv_room (m := m) (pc := pc) (ls := ls) (rest := .ref (gz G + (a.toNat - 1)) :: r.map (cv G)) (st := r.map (cv G)) (by rw [cat_sum (CX_ro hC) r hU]; exact hcat)
  omega
theorem s_new {G : GG} {p : Program} {l : Launch} {e : Env} {R : Room} {s : State} {m : MethodId} {args : Array Value} {below : List Frame} {meth : Method} {c : Code} {Q : State → Prop} {y pc cells slots : Nat} {L : Lv} {r : List AV} {S : Sh} {h : Mem} {ix ci : Nat} (hci : ci < 12) (hlink : Cond.classLink (mdN y).1.cls ix (clN ci).1 ∈ TG) (hz : s.heap.size + cells = gz G + (S.length - 1)) (hcl : cells + 1 ≤ R.cells) (hsl : slots + (clN ci).2.2 ≤ R.slots) (hd : decode (mdN y).2.1 pc = .ok (.new ix, 3)) (F : XFC G p s m args meth c y R)
    (k : WC G p l e R s m args below meth c Q y (pc + 3) L (.inr (.inr (S.length : Int)) :: r) (S ++ [(ci, (clN ci).2.2)]) h (cells + 1) (slots + (clN ci).2.2)) : WC G p l e R s m args below meth c Q y pc L r S h cells slots := by
  intro ls H locs ⟨hR, hS, hL, hV⟩
  obtain ⟨hx, hb, hml, hown, hts, hC, hini, hfr, hlo⟩ := F
  have h0 : 0 < S.length := (List.getElem?_eq_some_iff.mp hR.1.1).1
  refine W_size fun hs => ?_
  have hsz := Rel_size hC hR hS hz hs
  have hKn := hC.1.1 ci _ (cl_at hci)
  refine W.newcK hx hb hown (hts _ hlink) (hts _ (cl_inst hci).1) (hts _ (cl_inst hci).2) rfl hd hcl hsl hKn.2.1 hsz fun H1 kC hkC e1 z1 o1 => ?_
  have hq : ((ci, (clN ci).2.2).1 < 12 ∧ (vwCl[(ci, (clN ci).2.2).1]?).map (fun r => r.2.2) = some (ci, (clN ci).2.2).2) ∨ (20 ≤ (ci, (clN ci).2.2).1 ∧ (ci, (clN ci).2.2).1 ≤ 25 ∧ (ci, (clN ci).2.2).2 ≤ 100000) := Or.inl ⟨hci, by rw [cl_at hci]; rfl⟩
  have hR1 : Rel G (S ++ [(ci, (clN ci).2.2)]) h H1 := by
    refine Rel_push hR hq hsz (by rw [hsz]; exact o1) ?_
    rw [cell_o hci]
    refine ⟨_, cl_at hci, (u_born (tyC ci) hts (cl_in hci) hKn hkC e1 (cl_ty hci)).to ?_⟩
    intro j hj
    unfold vp_V
    rw [List.getD_eq_getElem?_getD, List.getElem?_map, List.getElem?_range hj]
    have hft := cl_ft hci j hj
    show defaultValue (tyC ci j) = fV (gz G) (tagF (tyC ci j)) 0
    generalize tyC ci j = ty at hft
    cases ty <;> first | rfl | cases hft
  have h2 := k ls H1 locs ⟨hR1, va_S_push hS (by omega) (by rw [hsz]; exact o1), LR_mono (by rw [List.length_append]; omega) hL, List.forall_mem_cons.mpr ⟨⟨by rw [List.length_append]; simp; omega, fun z => by omega⟩, fun v hv => okV_mono (by rw [List.length_append]; omega) (hV v hv)⟩⟩
  rw [List.map_cons, cv_ref (by omega)] at h2
  exact h2
theorem s_mmin {G : GG} {p : Program} {l : Launch} {e : Env} {R : Room} {s : State} {m : MethodId} {args : Array Value} {below : List Frame} {meth : Method} {c : Code} {Q : State → Prop} {y pc cells slots : Nat} {L : Lv} {r : List AV} {S : Sh} {h : Mem} {a b : Int} {ix : Nat} (hcat : catS r ≤ 8) (hlink : Cond.methodLink (mdN y).1.cls ix Lib.Math.min.name ∈ TG) (hrc : cells ≤ R.cells) (hrs : slots ≤ R.slots) (hd : decode (mdN y).2.1 pc = .ok (.invokestatic ix, 3)) (F : XFC G p s m args meth c y R)
    (k : WC G p l e R s m args below meth c Q y (pc + 3) L (.inl (am_min a b) :: r) S h cells slots) : WC G p l e R s m args below meth c Q y pc L (.inl b :: .inl a :: r) S h cells slots := by
  intro ls H locs ⟨hR, hS, hL, hV⟩
  obtain ⟨hx, hb, hml, hown, hts, hC, hini, hfr, hlo⟩ := F
  obtain ⟨hvb, hva, hU⟩ := (List.forall_mem_cons.mp hV).imp_right List.forall_mem_cons.mp
  have ok : xkI (am_min a b) := by unfold am_min; split <;> assumption
  have h2 := k ls H locs ⟨hR, hS, hL, List.forall_mem_cons.mpr ⟨ok, hU⟩⟩
  refine va_mmin hx hb (by rw [hml]; exact hL.2.1.1.symm) hown (hts _ hlink) (hts _ ml_in.1) (hts _ ml_in.2.2.2.1) (hts _ ml_in.2.2.2.2.1) hfr ?_ hrc hrs hd ?_
  · rw [cat_sum (CX_ro hC) r hU]; omega
  · have e1 : (if Int32.ofInt b < Int32.ofInt a then Int32.ofInt b else Int32.ofInt a) = Int32.ofInt (am_min a b) := by
      unfold am_min
      simp only [ofI_lt hvb hva]
      by_cases z : a < b
      · rw [if_pos z, if_neg (by omega)]
      · rw [if_neg z]
        by_cases w : b < a
        · rw [if_pos w]
        · rw [if_neg w, show a = b by omega]
    rw [e1]
    exact h2
theorem s_mmax {G : GG} {p : Program} {l : Launch} {e : Env} {R : Room} {s : State} {m : MethodId} {args : Array Value} {below : List Frame} {meth : Method} {c : Code} {Q : State → Prop} {y pc cells slots : Nat} {L : Lv} {r : List AV} {S : Sh} {h : Mem} {a b : Int} {ix : Nat} (hcat : catS r ≤ 8) (hlink : Cond.methodLink (mdN y).1.cls ix Lib.Math.max.name ∈ TG) (hrc : cells ≤ R.cells) (hrs : slots ≤ R.slots) (hd : decode (mdN y).2.1 pc = .ok (.invokestatic ix, 3)) (F : XFC G p s m args meth c y R)
    (k : WC G p l e R s m args below meth c Q y (pc + 3) L (.inl (am_max a b) :: r) S h cells slots) : WC G p l e R s m args below meth c Q y pc L (.inl b :: .inl a :: r) S h cells slots := by
  intro ls H locs ⟨hR, hS, hL, hV⟩
  obtain ⟨hx, hb, hml, hown, hts, hC, hini, hfr, hlo⟩ := F
  obtain ⟨hvb, hva, hU⟩ := (List.forall_mem_cons.mp hV).imp_right List.forall_mem_cons.mp
  have ok : xkI (am_max a b) := by unfold am_max; split <;> assumption
  have h2 := k ls H locs ⟨hR, hS, hL, List.forall_mem_cons.mpr ⟨ok, hU⟩⟩
  refine va_mmax hx hb (by rw [hml]; exact hL.2.1.1.symm) hown (hts _ hlink) (hts _ ml_in.2.1) (hts _ ml_in.2.2.2.1) (hts _ ml_in.2.2.2.2.2.1) hfr ?_ hrc hrs hd ?_
  · rw [cat_sum (CX_ro hC) r hU]; omega
  · have e1 : (if Int32.ofInt a < Int32.ofInt b then Int32.ofInt b else Int32.ofInt a) = Int32.ofInt (am_max a b) := by
      unfold am_max
      simp only [ofI_lt hva hvb]
      split <;> rfl
    rw [e1]
    exact h2
theorem s_mabs {G : GG} {p : Program} {l : Launch} {e : Env} {R : Room} {s : State} {m : MethodId} {args : Array Value} {below : List Frame} {meth : Method} {c : Code} {Q : State → Prop} {y pc cells slots : Nat} {L : Lv} {r : List AV} {S : Sh} {h : Mem} {a : Int} {ix : Nat} (hcat : catS r ≤ 8) (hlink : Cond.methodLink (mdN y).1.cls ix Lib.Math.abs.name ∈ TG) (hrc : cells ≤ R.cells) (hrs : slots ≤ R.slots) (hd : decode (mdN y).2.1 pc = .ok (.invokestatic ix, 3)) (F : XFC G p s m args meth c y R)
    (k : WC G p l e R s m args below meth c Q y (pc + 3) L (.inl (am_abs a) :: r) S h cells slots) : WC G p l e R s m args below meth c Q y pc L (.inl a :: r) S h cells slots := by
  intro ls H locs ⟨hR, hS, hL, hV⟩
  obtain ⟨hx, hb, hml, hown, hts, hC, hini, hfr, hlo⟩ := F
  obtain ⟨hva, hU⟩ := List.forall_mem_cons.mp hV
  have ok : xkI (am_abs a) := by
    unfold am_abs
    split
    · exact w32_ok _
    · exact hva
  have h2 := k ls H locs ⟨hR, hS, hL, List.forall_mem_cons.mpr ⟨ok, hU⟩⟩
  refine va_mabs hx hb (by rw [hml]; exact hL.2.1.1.symm) hown (hts _ hlink) (hts _ ml_in.2.2.1) (hts _ ml_in.2.2.2.1) (hts _ ml_in.2.2.2.2.2.2) hfr ?_ hrc hrs hd ?_
  · rw [cat_sum (CX_ro hC) r hU]; omega
  · have e1 : (if 0 ≤ Int32.ofInt a then Int32.ofInt a else 0 - Int32.ofInt a) = Int32.ofInt (am_abs a) := by
      unfold am_abs
      by_cases q : a < 0
      · rw [if_pos q, if_neg (by rw [← ofI_0, ofI_le okI_0 hva]; omega), mI_neg]
        simp
      · rw [if_neg q, if_pos (by rw [← ofI_0, ofI_le okI_0 hva]; omega)]
    rw [e1]
    exact h2
