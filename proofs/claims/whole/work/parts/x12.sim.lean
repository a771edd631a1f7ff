/-! THE MACHINE DOES WHAT THE ABSTRACT MACHINE DOES, an instruction a row (written by wip/tools/gensim.py) -/
def asl (G : GG) (L : Lv) : List (Nat × Value) := L.zipIdx.filterMap fun q => q.1.map fun v => (q.2, cv G v)
def LR (G : GG) (S : Sh) (nL : Nat) (ls : Array Slot) (L : Lv) : Prop := L.length = nL ∧ lv_has ls nL (asl G L) ∧ ∀ v, some v ∈ L → okV S v
def XFC (G : GG) (p : Program) (s : State) (m : MethodId) (args : Array Value) (meth : Method) (c : Code) (y : Nat) (R : Room) : Prop :=
  p.tables.exec = Jvm.exec ∧ c.code = (mdN y).2.1 ∧ c.maxLocals = (mdN y).2.2.1 ∧ s.vm.findClass (mdN y).1.cls = some m.cls ∧ (∀ w ∈ TG, w.before args s = true) ∧ CX G s ∧ ((mdN y).1.name = "<init>" → meth.name = "<init>") ∧ 1 ≤ R.frames ∧ 64 ≤ R.locals
def AtC (G : GG) (s : State) (y : Nat) (L : Lv) (st : List AV) (S : Sh) (h : Mem) (ls : Array Slot) (H : Heap) (locs : List Loc) : Prop := Rel G S h H ∧ va_S (gA G) s.heap H locs ∧ LR G S (mdN y).2.2.1 ls L ∧ ∀ v ∈ st, okV S v
def WC (G : GG) (p : Program) (l : Launch) (e : Env) (R : Room) (s : State) (m : MethodId) (args : Array Value) (below : List Frame) (meth : Method) (c : Code) (Q : State → Prop) (y pc : Nat) (L : Lv) (st : List AV) (S : Sh) (h : Mem) (cells slots : Nat) : Prop :=
  ∀ (ls : Array Slot) (H : Heap) (locs : List Loc), AtC G s y L st S h ls H locs → W p l e R s m args below meth c H locs cells slots Q (F0 m pc ls (st.map (cv G)))
theorem asl_mem {G : GG} {L : Lv} {i : Nat} {w : Value} : (i, w) ∈ asl G L ↔ ∃ v, L[i]? = some (some v) ∧ w = cv G v := by
  unfold asl
  rw [List.mem_filterMap]
  constructor
  · rintro ⟨⟨o, j⟩, h1, h2⟩
    cases o with
    | none => cases h2
    | some v =>
      cases h2
      exact ⟨v, List.mem_zipIdx_iff_getElem?.mp h1, rfl⟩
  · rintro ⟨v, h1, rfl⟩
    exact ⟨(some v, i), List.mem_zipIdx_iff_getElem?.mpr h1, rfl⟩
theorem LR_at {G : GG} {S : Sh} {nL i : Nat} {ls : Array Slot} {L : Lv} {v : AV} (hL : LR G S nL ls L) (h : L[i]? = some (some v)) : ls[i]? = some (.val (cv G v)) ∧ okV S v :=
  ⟨hL.2.1.2.2 (i, cv G v) (asl_mem.mpr ⟨v, h, rfl⟩), hL.2.2 v (List.mem_of_getElem? h)⟩
theorem okV_mono {S S' : Sh} {v : AV} (h : S.length ≤ S'.length) (hv : okV S v) : okV S' v := by
  unfold okV at *
  split at hv
  · exact hv
  · exact hv
  · exact ⟨by omega, hv.2⟩
theorem cat_cv1 {G : GG} {S : Sh} {v : AV} (hG : ∀ r : Int, -10 ≤ r → r ≤ -2 → (gR G r).category = 1) (hv : okV S v) (h : cat v = 1) : (cv G v).category = 1 := by
  match v, hv, h with
  | .inl x, _, _ => rfl
  | .inr (.inl x), _, h => cases h
  | .inr (.inr r), hv, _ =>
    rw [cv_r]
    split
    · next z => exact hG r (hv.2 z).1 (hv.2 z).2
    · split <;> rfl
theorem CX_ro {G : GG} {s : State} (h : CX G s) : ∀ r : Int, -10 ≤ r → r ≤ -2 → (gR G r).category = 1 := by
  obtain ⟨-, -, ⟨b, hb1, -⟩, -, ⟨t3, a3, -⟩, ⟨t4, a4, -⟩, ⟨t5, a5, -⟩, ⟨q1, t1, a1, a1', -⟩, ⟨q2, t2, a2, a2', -⟩, ⟨-, -, o, g2⟩, -⟩ := h
  intro r h1 h2
  have hr : r = -10 ∨ r = -9 ∨ r = -8 ∨ r = -7 ∨ r = -6 ∨ r = -5 ∨ r = -4 ∨ r = -3 ∨ r = -2 := by omega
  rcases hr with rfl | rfl | rfl | rfl | rfl | rfl | rfl | rfl | rfl
  · rw [g2]; cases o <;> rfl
  · rw [a2]; rfl
  · rw [a1]; rfl
  · rw [a2']; rfl
  · rw [a1']; rfl
  · rw [a5]; rfl
  · rw [a4]; rfl
  · rw [a3]; rfl
  · rw [hb1]; rfl
theorem s_iconst {G : GG} {p : Program} {l : Launch} {e : Env} {R : Room} {s : State} {m : MethodId} {args : Array Value} {below : List Frame} {meth : Method} {c : Code} {Q : State → Prop} {y pc cells slots : Nat} {L : Lv} {r : List AV} {S : Sh} {h : Mem} {n : Int} (hn : xkI n) (hd : decode (mdN y).2.1 pc = .ok (.iconst n, 1)) (F : XFC G p s m args meth c y R)
    (k : WC G p l e R s m args below meth c Q y (pc + 1) L (.inl n :: r) S h cells slots) : WC G p l e R s m args below meth c Q y pc L r S h cells slots := by
  intro ls H locs ⟨hR, hS, hL, hV⟩
  obtain ⟨hx, hb, hml, hown, hts, hC, hini, hfr, hlo⟩ := F
  exact lv_iconst hx hb hd rfl (k ls H locs ⟨hR, hS, hL, List.forall_mem_cons.mpr ⟨hn, hV⟩⟩)
theorem s_bipush {G : GG} {p : Program} {l : Launch} {e : Env} {R : Room} {s : State} {m : MethodId} {args : Array Value} {below : List Frame} {meth : Method} {c : Code} {Q : State → Prop} {y pc cells slots : Nat} {L : Lv} {r : List AV} {S : Sh} {h : Mem} {n : Int} (hn : -128 ≤ n ∧ n < 128) (hd : decode (mdN y).2.1 pc = .ok (.bipush n, 2)) (F : XFC G p s m args meth c y R)
    (k : WC G p l e R s m args below meth c Q y (pc + 2) L (.inl n :: r) S h cells slots) : WC G p l e R s m args below meth c Q y pc L r S h cells slots := by
  intro ls H locs ⟨hR, hS, hL, hV⟩
  obtain ⟨hx, hb, hml, hown, hts, hC, hini, hfr, hlo⟩ := F
  refine lv_bipush hx hb hd (v := Int32.ofInt n) ?_ (k ls H locs ⟨hR, hS, hL, List.forall_mem_cons.mpr ⟨okI_8 hn, hV⟩⟩)
  apply Int32.toInt_inj.mp
  rw [Int8.toInt_toInt32, toI (okI_8 hn), Int8.toInt_ofInt_of_le (by omega) (by omega)]
theorem s_sipush {G : GG} {p : Program} {l : Launch} {e : Env} {R : Room} {s : State} {m : MethodId} {args : Array Value} {below : List Frame} {meth : Method} {c : Code} {Q : State → Prop} {y pc cells slots : Nat} {L : Lv} {r : List AV} {S : Sh} {h : Mem} {n : Int} (hn : -32768 ≤ n ∧ n < 32768) (hd : decode (mdN y).2.1 pc = .ok (.sipush n, 3)) (F : XFC G p s m args meth c y R)
    (k : WC G p l e R s m args below meth c Q y (pc + 3) L (.inl n :: r) S h cells slots) : WC G p l e R s m args below meth c Q y pc L r S h cells slots := by
  intro ls H locs ⟨hR, hS, hL, hV⟩
  obtain ⟨hx, hb, hml, hown, hts, hC, hini, hfr, hlo⟩ := F
  refine lv_sipush hx hb hd (v := Int32.ofInt n) ?_ (k ls H locs ⟨hR, hS, hL, List.forall_mem_cons.mpr ⟨okI_16 hn, hV⟩⟩)
  apply Int32.toInt_inj.mp
  rw [Int16.toInt_toInt32, toI (okI_16 hn), Int16.toInt_ofInt_of_le (by omega) (by omega)]
theorem s_lconst {G : GG} {p : Program} {l : Launch} {e : Env} {R : Room} {s : State} {m : MethodId} {args : Array Value} {below : List Frame} {meth : Method} {c : Code} {Q : State → Prop} {y pc cells slots : Nat} {L : Lv} {r : List AV} {S : Sh} {h : Mem} {n : Fin 2} (hd : decode (mdN y).2.1 pc = .ok (.lconst n, 1)) (F : XFC G p s m args meth c y R)
    (k : WC G p l e R s m args below meth c Q y (pc + 1) L (.inr (.inl (n.val : Int)) :: r) S h cells slots) : WC G p l e R s m args below meth c Q y pc L r S h cells slots := by
  intro ls H locs ⟨hR, hS, hL, hV⟩
  obtain ⟨hx, hb, hml, hown, hts, hC, hini, hfr, hlo⟩ := F
  refine lv_lconst hx hb hd (v := Int64.ofInt (n.val : Int)) ?_ (k ls H locs ⟨hR, hS, hL, List.forall_mem_cons.mpr ⟨?_, hV⟩⟩)
  · match n with
    | ⟨0, _⟩ => rfl
    | ⟨1, _⟩ => rfl
  · show okJ (n.val : Int)
    unfold okJ
    have := n.isLt
    omega
theorem s_iload_n {G : GG} {p : Program} {l : Launch} {e : Env} {R : Room} {s : State} {m : MethodId} {args : Array Value} {below : List Frame} {meth : Method} {c : Code} {Q : State → Prop} {y pc cells slots : Nat} {L : Lv} {r : List AV} {S : Sh} {h : Mem} {n : Fin 4} {x : Int} (hl : L[n.val]? = some (some (.inl x))) (hd : decode (mdN y).2.1 pc = .ok (.iload_n n, 1)) (F : XFC G p s m args meth c y R)
    (k : WC G p l e R s m args below meth c Q y (pc + 1) L (.inl x :: r) S h cells slots) : WC G p l e R s m args below meth c Q y pc L r S h cells slots := by
  intro ls H locs ⟨hR, hS, hL, hV⟩
  obtain ⟨hx, hb, hml, hown, hts, hC, hini, hfr, hlo⟩ := F
  exact lv_iload_n hx hb hd rfl (LR_at hL hl).1 (k ls H locs ⟨hR, hS, hL, List.forall_mem_cons.mpr ⟨(LR_at hL hl).2, hV⟩⟩)
theorem s_iload {G : GG} {p : Program} {l : Launch} {e : Env} {R : Room} {s : State} {m : MethodId} {args : Array Value} {below : List Frame} {meth : Method} {c : Code} {Q : State → Prop} {y pc cells slots : Nat} {L : Lv} {r : List AV} {S : Sh} {h : Mem} {n : Nat} {x : Int} (hl : L[n]? = some (some (.inl x))) (hd : decode (mdN y).2.1 pc = .ok (.iload n, 2)) (F : XFC G p s m args meth c y R)
    (k : WC G p l e R s m args below meth c Q y (pc + 2) L (.inl x :: r) S h cells slots) : WC G p l e R s m args below meth c Q y pc L r S h cells slots := by
  intro ls H locs ⟨hR, hS, hL, hV⟩
  obtain ⟨hx, hb, hml, hown, hts, hC, hini, hfr, hlo⟩ := F
  exact lv_iload hx hb hd (LR_at hL hl).1 (k ls H locs ⟨hR, hS, hL, List.forall_mem_cons.mpr ⟨(LR_at hL hl).2, hV⟩⟩)
theorem s_lload_n {G : GG} {p : Program} {l : Launch} {e : Env} {R : Room} {s : State} {m : MethodId} {args : Array Value} {below : List Frame} {meth : Method} {c : Code} {Q : State → Prop} {y pc cells slots : Nat} {L : Lv} {r : List AV} {S : Sh} {h : Mem} {n : Fin 4} {x : Int} (hl : L[n.val]? = some (some (.inr (.inl x)))) (hd : decode (mdN y).2.1 pc = .ok (.lload_n n, 1)) (F : XFC G p s m args meth c y R)
    (k : WC G p l e R s m args below meth c Q y (pc + 1) L (.inr (.inl x) :: r) S h cells slots) : WC G p l e R s m args below meth c Q y pc L r S h cells slots := by
  intro ls H locs ⟨hR, hS, hL, hV⟩
  obtain ⟨hx, hb, hml, hown, hts, hC, hini, hfr, hlo⟩ := F
  exact lv_lload_n hx hb hd rfl (LR_at hL hl).1 (k ls H locs ⟨hR, hS, hL, List.forall_mem_cons.mpr ⟨(LR_at hL hl).2, hV⟩⟩)
theorem s_lload {G : GG} {p : Program} {l : Launch} {e : Env} {R : Room} {s : State} {m : MethodId} {args : Array Value} {below : List Frame} {meth : Method} {c : Code} {Q : State → Prop} {y pc cells slots : Nat} {L : Lv} {r : List AV} {S : Sh} {h : Mem} {n : Nat} {x : Int} (hl : L[n]? = some (some (.inr (.inl x)))) (hd : decode (mdN y).2.1 pc = .ok (.lload n, 2)) (F : XFC G p s m args meth c y R)
    (k : WC G p l e R s m args below meth c Q y (pc + 2) L (.inr (.inl x) :: r) S h cells slots) : WC G p l e R s m args below meth c Q y pc L r S h cells slots := by
  intro ls H locs ⟨hR, hS, hL, hV⟩
  obtain ⟨hx, hb, hml, hown, hts, hC, hini, hfr, hlo⟩ := F
  exact lv_lload hx hb hd (LR_at hL hl).1 (k ls H locs ⟨hR, hS, hL, List.forall_mem_cons.mpr ⟨(LR_at hL hl).2, hV⟩⟩)
theorem cv_isref {G : GG} {s : State} {S : Sh} {x : Int} (hC : CX G s) (hv : okV S (.inr (.inr x))) : ∃ o : Option Nat, cv G (.inr (.inr x)) = va_rf o := by
  rcases Int.lt_or_le x 0 with h0 | h0
  · rw [cv_ro h0]
    obtain ⟨-, -, ⟨b, hb1, -⟩, -, ⟨t3, a3, -⟩, ⟨t4, a4, -⟩, ⟨t5, a5, -⟩, ⟨q1, t1, a1, a1', -⟩, ⟨q2, t2, a2, a2', -⟩, ⟨-, -, g2⟩, -⟩ := hC
    have h1 := hv.2 h0
    have hr : x = -10 ∨ x = -9 ∨ x = -8 ∨ x = -7 ∨ x = -6 ∨ x = -5 ∨ x = -4 ∨ x = -3 ∨ x = -2 := by omega
    rcases hr with rfl | rfl | rfl | rfl | rfl | rfl | rfl | rfl | rfl
    · exact g2
    · exact ⟨some _, a2⟩
    · exact ⟨some _, a1⟩
    · exact ⟨some _, a2'⟩
    · exact ⟨some _, a1'⟩
    · exact ⟨some _, a5⟩
    · exact ⟨some _, a4⟩
    · exact ⟨some _, a3⟩
    · exact ⟨some _, hb1⟩
  · exact ⟨_, (rf_cv h0).symm⟩
theorem s_aload_n {G : GG} {p : Program} {l : Launch} {e : Env} {R : Room} {s : State} {m : MethodId} {args : Array Value} {below : List Frame} {meth : Method} {c : Code} {Q : State → Prop} {y pc cells slots : Nat} {L : Lv} {r : List AV} {S : Sh} {h : Mem} {n : Fin 4} {x : Int} (hl : L[n.val]? = some (some (.inr (.inr x)))) (hd : decode (mdN y).2.1 pc = .ok (.aload_n n, 1)) (F : XFC G p s m args meth c y R)
    (k : WC G p l e R s m args below meth c Q y (pc + 1) L (.inr (.inr x) :: r) S h cells slots) : WC G p l e R s m args below meth c Q y pc L r S h cells slots := by
  intro ls H locs ⟨hR, hS, hL, hV⟩
  obtain ⟨hx, hb, hml, hown, hts, hC, hini, hfr, hlo⟩ := F
  have h1 := LR_at hL hl
  have h2 := k ls H locs ⟨hR, hS, hL, List.forall_mem_cons.mpr ⟨h1.2, hV⟩⟩
  obtain ⟨o, ho⟩ := cv_isref hC h1.2
  rw [ho] at h1
  rw [List.map_cons, ho] at h2
  cases o with
  | none => exact lv_aload_nN hx hb hd rfl h1.1 h2
  | some a => exact lv_aload_n hx hb hd rfl h1.1 h2
theorem s_aload {G : GG} {p : Program} {l : Launch} {e : Env} {R : Room} {s : State} {m : MethodId} {args : Array Value} {below : List Frame} {meth : Method} {c : Code} {Q : State → Prop} {y pc cells slots : Nat} {L : Lv} {r : List AV} {S : Sh} {h : Mem} {n : Nat} {x : Int} (hl : L[n]? = some (some (.inr (.inr x)))) (hd : decode (mdN y).2.1 pc = .ok (.aload n, 2)) (F : XFC G p s m args meth c y R)
    (k : WC G p l e R s m args below meth c Q y (pc + 2) L (.inr (.inr x) :: r) S h cells slots) : WC G p l e R s m args below meth c Q y pc L r S h cells slots := by
  intro ls H locs ⟨hR, hS, hL, hV⟩
  obtain ⟨hx, hb, hml, hown, hts, hC, hini, hfr, hlo⟩ := F
  have h1 := LR_at hL hl
  have h2 := k ls H locs ⟨hR, hS, hL, List.forall_mem_cons.mpr ⟨h1.2, hV⟩⟩
  obtain ⟨o, ho⟩ := cv_isref hC h1.2
  rw [ho] at h1
  rw [List.map_cons, ho] at h2
  cases o with
  | none => exact lv_aloadN hx hb hd h1.1 h2
  | some a => exact lv_aload hx hb hd h1.1 h2
theorem s_iadd {G : GG} {p : Program} {l : Launch} {e : Env} {R : Room} {s : State} {m : MethodId} {args : Array Value} {below : List Frame} {meth : Method} {c : Code} {Q : State → Prop} {y pc cells slots : Nat} {L : Lv} {r : List AV} {S : Sh} {h : Mem} {a b : Int} (hd : decode (mdN y).2.1 pc = .ok (.iadd, 1)) (F : XFC G p s m args meth c y R)
    (k : WC G p l e R s m args below meth c Q y (pc + 1) L (.inl (w32 (a + b)) :: r) S h cells slots) : WC G p l e R s m args below meth c Q y pc L (.inl b :: .inl a :: r) S h cells slots := by
  intro ls H locs ⟨hR, hS, hL, hV⟩
  obtain ⟨hx, hb, hml, hown, hts, hC, hini, hfr, hlo⟩ := F
  obtain ⟨hvb, hva, hV⟩ := (List.forall_mem_cons.mp hV).imp_right List.forall_mem_cons.mp
  refine lv_iadd hx hb hd ?_
  rw [← mI_add]
  exact k ls H locs ⟨hR, hS, hL, List.forall_mem_cons.mpr ⟨w32_ok _, hV⟩⟩
theorem s_isub {G : GG} {p : Program} {l : Launch} {e : Env} {R : Room} {s : State} {m : MethodId} {args : Array Value} {below : List Frame} {meth : Method} {c : Code} {Q : State → Prop} {y pc cells slots : Nat} {L : Lv} {r : List AV} {S : Sh} {h : Mem} {a b : Int} (hd : decode (mdN y).2.1 pc = .ok (.isub, 1)) (F : XFC G p s m args meth c y R)
    (k : WC G p l e R s m args below meth c Q y (pc + 1) L (.inl (w32 (a - b)) :: r) S h cells slots) : WC G p l e R s m args below meth c Q y pc L (.inl b :: .inl a :: r) S h cells slots := by
  intro ls H locs ⟨hR, hS, hL, hV⟩
  obtain ⟨hx, hb, hml, hown, hts, hC, hini, hfr, hlo⟩ := F
  obtain ⟨hvb, hva, hV⟩ := (List.forall_mem_cons.mp hV).imp_right List.forall_mem_cons.mp
  refine lv_isub hx hb hd ?_
  rw [← mI_sub]
  exact k ls H locs ⟨hR, hS, hL, List.forall_mem_cons.mpr ⟨w32_ok _, hV⟩⟩
theorem s_imul {G : GG} {p : Program} {l : Launch} {e : Env} {R : Room} {s : State} {m : MethodId} {args : Array Value} {below : List Frame} {meth : Method} {c : Code} {Q : State → Prop} {y pc cells slots : Nat} {L : Lv} {r : List AV} {S : Sh} {h : Mem} {a b : Int} (hd : decode (mdN y).2.1 pc = .ok (.imul, 1)) (F : XFC G p s m args meth c y R)
    (k : WC G p l e R s m args below meth c Q y (pc + 1) L (.inl (w32 (a * b)) :: r) S h cells slots) : WC G p l e R s m args below meth c Q y pc L (.inl b :: .inl a :: r) S h cells slots := by
  intro ls H locs ⟨hR, hS, hL, hV⟩
  obtain ⟨hx, hb, hml, hown, hts, hC, hini, hfr, hlo⟩ := F
  obtain ⟨hvb, hva, hV⟩ := (List.forall_mem_cons.mp hV).imp_right List.forall_mem_cons.mp
  refine lv_imul hx hb hd ?_
  rw [← mI_mul]
  exact k ls H locs ⟨hR, hS, hL, List.forall_mem_cons.mpr ⟨w32_ok _, hV⟩⟩
theorem s_iand {G : GG} {p : Program} {l : Launch} {e : Env} {R : Room} {s : State} {m : MethodId} {args : Array Value} {below : List Frame} {meth : Method} {c : Code} {Q : State → Prop} {y pc cells slots : Nat} {L : Lv} {r : List AV} {S : Sh} {h : Mem} {a b : Int} (hd : decode (mdN y).2.1 pc = .ok (.iand, 1)) (F : XFC G p s m args meth c y R)
    (k : WC G p l e R s m args below meth c Q y (pc + 1) L (.inl (am_and a b) :: r) S h cells slots) : WC G p l e R s m args below meth c Q y pc L (.inl b :: .inl a :: r) S h cells slots := by
  intro ls H locs ⟨hR, hS, hL, hV⟩
  obtain ⟨hx, hb, hml, hown, hts, hC, hini, hfr, hlo⟩ := F
  obtain ⟨hvb, hva, hV⟩ := (List.forall_mem_cons.mp hV).imp_right List.forall_mem_cons.mp
  have h2 := k ls H locs ⟨hR, hS, hL, List.forall_mem_cons.mpr ⟨okI_toInt _, hV⟩⟩
  refine lv_iand hx hb hd ?_
  simp only [List.map_cons, cv, am_and, Int32.ofInt_toInt] at h2
  exact h2
theorem s_ior {G : GG} {p : Program} {l : Launch} {e : Env} {R : Room} {s : State} {m : MethodId} {args : Array Value} {below : List Frame} {meth : Method} {c : Code} {Q : State → Prop} {y pc cells slots : Nat} {L : Lv} {r : List AV} {S : Sh} {h : Mem} {a b : Int} (hd : decode (mdN y).2.1 pc = .ok (.ior, 1)) (F : XFC G p s m args meth c y R)
    (k : WC G p l e R s m args below meth c Q y (pc + 1) L (.inl (am_or a b) :: r) S h cells slots) : WC G p l e R s m args below meth c Q y pc L (.inl b :: .inl a :: r) S h cells slots := by
  intro ls H locs ⟨hR, hS, hL, hV⟩
  obtain ⟨hx, hb, hml, hown, hts, hC, hini, hfr, hlo⟩ := F
  obtain ⟨hvb, hva, hV⟩ := (List.forall_mem_cons.mp hV).imp_right List.forall_mem_cons.mp
  have h2 := k ls H locs ⟨hR, hS, hL, List.forall_mem_cons.mpr ⟨okI_toInt _, hV⟩⟩
  refine lv_ior hx hb hd ?_
  simp only [List.map_cons, cv, am_or, Int32.ofInt_toInt] at h2
  exact h2
theorem s_ishl {G : GG} {p : Program} {l : Launch} {e : Env} {R : Room} {s : State} {m : MethodId} {args : Array Value} {below : List Frame} {meth : Method} {c : Code} {Q : State → Prop} {y pc cells slots : Nat} {L : Lv} {r : List AV} {S : Sh} {h : Mem} {a b : Int} (hd : decode (mdN y).2.1 pc = .ok (.ishl, 1)) (F : XFC G p s m args meth c y R)
    (k : WC G p l e R s m args below meth c Q y (pc + 1) L (.inl (am_shl a b) :: r) S h cells slots) : WC G p l e R s m args below meth c Q y pc L (.inl b :: .inl a :: r) S h cells slots := by
  intro ls H locs ⟨hR, hS, hL, hV⟩
  obtain ⟨hx, hb, hml, hown, hts, hC, hini, hfr, hlo⟩ := F
  obtain ⟨hvb, hva, hV⟩ := (List.forall_mem_cons.mp hV).imp_right List.forall_mem_cons.mp
  have h2 := k ls H locs ⟨hR, hS, hL, List.forall_mem_cons.mpr ⟨okI_toInt _, hV⟩⟩
  refine lv_ishl hx hb hd ?_
  simp only [List.map_cons, cv, am_shl, Int32.ofInt_toInt] at h2
  exact h2
theorem s_ishr {G : GG} {p : Program} {l : Launch} {e : Env} {R : Room} {s : State} {m : MethodId} {args : Array Value} {below : List Frame} {meth : Method} {c : Code} {Q : State → Prop} {y pc cells slots : Nat} {L : Lv} {r : List AV} {S : Sh} {h : Mem} {a b : Int} (hd : decode (mdN y).2.1 pc = .ok (.ishr, 1)) (F : XFC G p s m args meth c y R)
    (k : WC G p l e R s m args below meth c Q y (pc + 1) L (.inl (am_shr a b) :: r) S h cells slots) : WC G p l e R s m args below meth c Q y pc L (.inl b :: .inl a :: r) S h cells slots := by
  intro ls H locs ⟨hR, hS, hL, hV⟩
  obtain ⟨hx, hb, hml, hown, hts, hC, hini, hfr, hlo⟩ := F
  obtain ⟨hvb, hva, hV⟩ := (List.forall_mem_cons.mp hV).imp_right List.forall_mem_cons.mp
  have h2 := k ls H locs ⟨hR, hS, hL, List.forall_mem_cons.mpr ⟨okI_toInt _, hV⟩⟩
  refine lv_ishr hx hb hd ?_
  simp only [List.map_cons, cv, am_shr, Int32.ofInt_toInt] at h2
  exact h2
theorem s_iushr {G : GG} {p : Program} {l : Launch} {e : Env} {R : Room} {s : State} {m : MethodId} {args : Array Value} {below : List Frame} {meth : Method} {c : Code} {Q : State → Prop} {y pc cells slots : Nat} {L : Lv} {r : List AV} {S : Sh} {h : Mem} {a b : Int} (hd : decode (mdN y).2.1 pc = .ok (.iushr, 1)) (F : XFC G p s m args meth c y R)
    (k : WC G p l e R s m args below meth c Q y (pc + 1) L (.inl (am_ushr a b) :: r) S h cells slots) : WC G p l e R s m args below meth c Q y pc L (.inl b :: .inl a :: r) S h cells slots := by
  intro ls H locs ⟨hR, hS, hL, hV⟩
  obtain ⟨hx, hb, hml, hown, hts, hC, hini, hfr, hlo⟩ := F
  obtain ⟨hvb, hva, hV⟩ := (List.forall_mem_cons.mp hV).imp_right List.forall_mem_cons.mp
  have h2 := k ls H locs ⟨hR, hS, hL, List.forall_mem_cons.mpr ⟨okI_toInt _, hV⟩⟩
  refine lv_iushr hx hb hd rfl ?_
  simp only [List.map_cons, cv, am_ushr, Int32.ofInt_toInt] at h2
  exact h2
theorem s_idiv {G : GG} {p : Program} {l : Launch} {e : Env} {R : Room} {s : State} {m : MethodId} {args : Array Value} {below : List Frame} {meth : Method} {c : Code} {Q : State → Prop} {y pc cells slots : Nat} {L : Lv} {r : List AV} {S : Sh} {h : Mem} {a b : Int} (hne : ¬ b = 0) (hd : decode (mdN y).2.1 pc = .ok (.idiv, 1)) (F : XFC G p s m args meth c y R)
    (k : WC G p l e R s m args below meth c Q y (pc + 1) L (.inl (am_div a b) :: r) S h cells slots) : WC G p l e R s m args below meth c Q y pc L (.inl b :: .inl a :: r) S h cells slots := by
  intro ls H locs ⟨hR, hS, hL, hV⟩
  obtain ⟨hx, hb, hml, hown, hts, hC, hini, hfr, hlo⟩ := F
  obtain ⟨hvb, hva, hV⟩ := (List.forall_mem_cons.mp hV).imp_right List.forall_mem_cons.mp
  refine lv_idiv hx hb hd (fun z => hne ((ofI_eq0 hvb).mp z)) ?_
  rw [← mI_div hva hvb]
  exact k ls H locs ⟨hR, hS, hL, List.forall_mem_cons.mpr ⟨w32_ok _, hV⟩⟩
theorem s_irem {G : GG} {p : Program} {l : Launch} {e : Env} {R : Room} {s : State} {m : MethodId} {args : Array Value} {below : List Frame} {meth : Method} {c : Code} {Q : State → Prop} {y pc cells slots : Nat} {L : Lv} {r : List AV} {S : Sh} {h : Mem} {a b : Int} (hne : ¬ b = 0) (hd : decode (mdN y).2.1 pc = .ok (.irem, 1)) (F : XFC G p s m args meth c y R)
    (k : WC G p l e R s m args below meth c Q y (pc + 1) L (.inl (am_rem a b) :: r) S h cells slots) : WC G p l e R s m args below meth c Q y pc L (.inl b :: .inl a :: r) S h cells slots := by
  intro ls H locs ⟨hR, hS, hL, hV⟩
  obtain ⟨hx, hb, hml, hown, hts, hC, hini, hfr, hlo⟩ := F
  obtain ⟨hvb, hva, hV⟩ := (List.forall_mem_cons.mp hV).imp_right List.forall_mem_cons.mp
  refine lv_irem hx hb hd (fun z => hne ((ofI_eq0 hvb).mp z)) ?_
  rw [← mI_rem hva hvb]
  exact k ls H locs ⟨hR, hS, hL, List.forall_mem_cons.mpr ⟨tmod_ok hva, hV⟩⟩
theorem s_ineg {G : GG} {p : Program} {l : Launch} {e : Env} {R : Room} {s : State} {m : MethodId} {args : Array Value} {below : List Frame} {meth : Method} {c : Code} {Q : State → Prop} {y pc cells slots : Nat} {L : Lv} {r : List AV} {S : Sh} {h : Mem} {a : Int} (hd : decode (mdN y).2.1 pc = .ok (.ineg, 1)) (F : XFC G p s m args meth c y R)
    (k : WC G p l e R s m args below meth c Q y (pc + 1) L (.inl (w32 (-a)) :: r) S h cells slots) : WC G p l e R s m args below meth c Q y pc L (.inl a :: r) S h cells slots := by
  intro ls H locs ⟨hR, hS, hL, hV⟩
  obtain ⟨hx, hb, hml, hown, hts, hC, hini, hfr, hlo⟩ := F
  obtain ⟨hva, hV⟩ := List.forall_mem_cons.mp hV
  refine lv_ineg hx hb hd ?_
  rw [← mI_neg]
  exact k ls H locs ⟨hR, hS, hL, List.forall_mem_cons.mpr ⟨w32_ok _, hV⟩⟩
theorem s_ladd {G : GG} {p : Program} {l : Launch} {e : Env} {R : Room} {s : State} {m : MethodId} {args : Array Value} {below : List Frame} {meth : Method} {c : Code} {Q : State → Prop} {y pc cells slots : Nat} {L : Lv} {r : List AV} {S : Sh} {h : Mem} {a b : Int} (hd : decode (mdN y).2.1 pc = .ok (.ladd, 1)) (F : XFC G p s m args meth c y R)
    (k : WC G p l e R s m args below meth c Q y (pc + 1) L (.inr (.inl (w64 (a + b))) :: r) S h cells slots) : WC G p l e R s m args below meth c Q y pc L (.inr (.inl b) :: .inr (.inl a) :: r) S h cells slots := by
  intro ls H locs ⟨hR, hS, hL, hV⟩
  obtain ⟨hx, hb, hml, hown, hts, hC, hini, hfr, hlo⟩ := F
  obtain ⟨hvb, hva, hV⟩ := (List.forall_mem_cons.mp hV).imp_right List.forall_mem_cons.mp
  refine lv_ladd hx hb hd ?_
  rw [← mJ_add]
  exact k ls H locs ⟨hR, hS, hL, List.forall_mem_cons.mpr ⟨w64_ok _, hV⟩⟩
theorem s_lsub {G : GG} {p : Program} {l : Launch} {e : Env} {R : Room} {s : State} {m : MethodId} {args : Array Value} {below : List Frame} {meth : Method} {c : Code} {Q : State → Prop} {y pc cells slots : Nat} {L : Lv} {r : List AV} {S : Sh} {h : Mem} {a b : Int} (hd : decode (mdN y).2.1 pc = .ok (.lsub, 1)) (F : XFC G p s m args meth c y R)
    (k : WC G p l e R s m args below meth c Q y (pc + 1) L (.inr (.inl (w64 (a - b))) :: r) S h cells slots) : WC G p l e R s m args below meth c Q y pc L (.inr (.inl b) :: .inr (.inl a) :: r) S h cells slots := by
  intro ls H locs ⟨hR, hS, hL, hV⟩
  obtain ⟨hx, hb, hml, hown, hts, hC, hini, hfr, hlo⟩ := F
  obtain ⟨hvb, hva, hV⟩ := (List.forall_mem_cons.mp hV).imp_right List.forall_mem_cons.mp
  refine lv_lsub hx hb hd ?_
  rw [← mJ_sub]
  exact k ls H locs ⟨hR, hS, hL, List.forall_mem_cons.mpr ⟨w64_ok _, hV⟩⟩
theorem s_lmul {G : GG} {p : Program} {l : Launch} {e : Env} {R : Room} {s : State} {m : MethodId} {args : Array Value} {below : List Frame} {meth : Method} {c : Code} {Q : State → Prop} {y pc cells slots : Nat} {L : Lv} {r : List AV} {S : Sh} {h : Mem} {a b : Int} (hd : decode (mdN y).2.1 pc = .ok (.lmul, 1)) (F : XFC G p s m args meth c y R)
    (k : WC G p l e R s m args below meth c Q y (pc + 1) L (.inr (.inl (w64 (a * b))) :: r) S h cells slots) : WC G p l e R s m args below meth c Q y pc L (.inr (.inl b) :: .inr (.inl a) :: r) S h cells slots := by
  intro ls H locs ⟨hR, hS, hL, hV⟩
  obtain ⟨hx, hb, hml, hown, hts, hC, hini, hfr, hlo⟩ := F
  obtain ⟨hvb, hva, hV⟩ := (List.forall_mem_cons.mp hV).imp_right List.forall_mem_cons.mp
  refine lv_lmul hx hb hd ?_
  rw [← mJ_mul]
  exact k ls H locs ⟨hR, hS, hL, List.forall_mem_cons.mpr ⟨w64_ok _, hV⟩⟩
theorem s_land {G : GG} {p : Program} {l : Launch} {e : Env} {R : Room} {s : State} {m : MethodId} {args : Array Value} {below : List Frame} {meth : Method} {c : Code} {Q : State → Prop} {y pc cells slots : Nat} {L : Lv} {r : List AV} {S : Sh} {h : Mem} {a b : Int} (hd : decode (mdN y).2.1 pc = .ok (.land, 1)) (F : XFC G p s m args meth c y R)
    (k : WC G p l e R s m args below meth c Q y (pc + 1) L (.inr (.inl (am_land a b)) :: r) S h cells slots) : WC G p l e R s m args below meth c Q y pc L (.inr (.inl b) :: .inr (.inl a) :: r) S h cells slots := by
  intro ls H locs ⟨hR, hS, hL, hV⟩
  obtain ⟨hx, hb, hml, hown, hts, hC, hini, hfr, hlo⟩ := F
  obtain ⟨hvb, hva, hV⟩ := (List.forall_mem_cons.mp hV).imp_right List.forall_mem_cons.mp
  have h2 := k ls H locs ⟨hR, hS, hL, List.forall_mem_cons.mpr ⟨okJ_toInt _, hV⟩⟩
  refine lv_land hx hb hd ?_
  simp only [List.map_cons, cv, am_land, Int64.ofInt_toInt] at h2
  exact h2
theorem s_lor {G : GG} {p : Program} {l : Launch} {e : Env} {R : Room} {s : State} {m : MethodId} {args : Array Value} {below : List Frame} {meth : Method} {c : Code} {Q : State → Prop} {y pc cells slots : Nat} {L : Lv} {r : List AV} {S : Sh} {h : Mem} {a b : Int} (hd : decode (mdN y).2.1 pc = .ok (.lor, 1)) (F : XFC G p s m args meth c y R)
    (k : WC G p l e R s m args below meth c Q y (pc + 1) L (.inr (.inl (am_lor a b)) :: r) S h cells slots) : WC G p l e R s m args below meth c Q y pc L (.inr (.inl b) :: .inr (.inl a) :: r) S h cells slots := by
  intro ls H locs ⟨hR, hS, hL, hV⟩
  obtain ⟨hx, hb, hml, hown, hts, hC, hini, hfr, hlo⟩ := F
  obtain ⟨hvb, hva, hV⟩ := (List.forall_mem_cons.mp hV).imp_right List.forall_mem_cons.mp
  have h2 := k ls H locs ⟨hR, hS, hL, List.forall_mem_cons.mpr ⟨okJ_toInt _, hV⟩⟩
  refine lv_lor hx hb hd ?_
  simp only [List.map_cons, cv, am_lor, Int64.ofInt_toInt] at h2
  exact h2
theorem s_lshl {G : GG} {p : Program} {l : Launch} {e : Env} {R : Room} {s : State} {m : MethodId} {args : Array Value} {below : List Frame} {meth : Method} {c : Code} {Q : State → Prop} {y pc cells slots : Nat} {L : Lv} {r : List AV} {S : Sh} {h : Mem} {a b : Int} (hd : decode (mdN y).2.1 pc = .ok (.lshl, 1)) (F : XFC G p s m args meth c y R)
    (k : WC G p l e R s m args below meth c Q y (pc + 1) L (.inr (.inl (am_lshl a b)) :: r) S h cells slots) : WC G p l e R s m args below meth c Q y pc L (.inl b :: .inr (.inl a) :: r) S h cells slots := by
  intro ls H locs ⟨hR, hS, hL, hV⟩
  obtain ⟨hx, hb, hml, hown, hts, hC, hini, hfr, hlo⟩ := F
  obtain ⟨hvb, hva, hV⟩ := (List.forall_mem_cons.mp hV).imp_right List.forall_mem_cons.mp
  have h2 := k ls H locs ⟨hR, hS, hL, List.forall_mem_cons.mpr ⟨okJ_toInt _, hV⟩⟩
  refine lv_lshl hx hb hd rfl ?_
  simp only [List.map_cons, cv, am_lshl, Int64.ofInt_toInt] at h2
  exact h2
theorem s_lshr {G : GG} {p : Program} {l : Launch} {e : Env} {R : Room} {s : State} {m : MethodId} {args : Array Value} {below : List Frame} {meth : Method} {c : Code} {Q : State → Prop} {y pc cells slots : Nat} {L : Lv} {r : List AV} {S : Sh} {h : Mem} {a b : Int} (hd : decode (mdN y).2.1 pc = .ok (.lshr, 1)) (F : XFC G p s m args meth c y R)
    (k : WC G p l e R s m args below meth c Q y (pc + 1) L (.inr (.inl (am_lshr a b)) :: r) S h cells slots) : WC G p l e R s m args below meth c Q y pc L (.inl b :: .inr (.inl a) :: r) S h cells slots := by
  intro ls H locs ⟨hR, hS, hL, hV⟩
  obtain ⟨hx, hb, hml, hown, hts, hC, hini, hfr, hlo⟩ := F
  obtain ⟨hvb, hva, hV⟩ := (List.forall_mem_cons.mp hV).imp_right List.forall_mem_cons.mp
  have h2 := k ls H locs ⟨hR, hS, hL, List.forall_mem_cons.mpr ⟨okJ_toInt _, hV⟩⟩
  refine lv_lshr hx hb hd rfl ?_
  simp only [List.map_cons, cv, am_lshr, Int64.ofInt_toInt] at h2
  exact h2
theorem s_ldiv {G : GG} {p : Program} {l : Launch} {e : Env} {R : Room} {s : State} {m : MethodId} {args : Array Value} {below : List Frame} {meth : Method} {c : Code} {Q : State → Prop} {y pc cells slots : Nat} {L : Lv} {r : List AV} {S : Sh} {h : Mem} {a b : Int} (hne : ¬ b = 0) (hd : decode (mdN y).2.1 pc = .ok (.ldiv, 1)) (F : XFC G p s m args meth c y R)
    (k : WC G p l e R s m args below meth c Q y (pc + 1) L (.inr (.inl (am_ldiv a b)) :: r) S h cells slots) : WC G p l e R s m args below meth c Q y pc L (.inr (.inl b) :: .inr (.inl a) :: r) S h cells slots := by
  intro ls H locs ⟨hR, hS, hL, hV⟩
  obtain ⟨hx, hb, hml, hown, hts, hC, hini, hfr, hlo⟩ := F
  obtain ⟨hvb, hva, hV⟩ := (List.forall_mem_cons.mp hV).imp_right List.forall_mem_cons.mp
  refine lv_ldiv hx hb hd (fun z => hne ((ofJ_eq hvb (okI_okJ okI_0)).mp z)) ?_
  rw [← mJ_div hva hvb]
  exact k ls H locs ⟨hR, hS, hL, List.forall_mem_cons.mpr ⟨w64_ok _, hV⟩⟩
theorem s_lrem {G : GG} {p : Program} {l : Launch} {e : Env} {R : Room} {s : State} {m : MethodId} {args : Array Value} {below : List Frame} {meth : Method} {c : Code} {Q : State → Prop} {y pc cells slots : Nat} {L : Lv} {r : List AV} {S : Sh} {h : Mem} {a b : Int} (hne : ¬ b = 0) (hd : decode (mdN y).2.1 pc = .ok (.lrem, 1)) (F : XFC G p s m args meth c y R)
    (k : WC G p l e R s m args below meth c Q y (pc + 1) L (.inr (.inl (am_lrem a b)) :: r) S h cells slots) : WC G p l e R s m args below meth c Q y pc L (.inr (.inl b) :: .inr (.inl a) :: r) S h cells slots := by
  intro ls H locs ⟨hR, hS, hL, hV⟩
  obtain ⟨hx, hb, hml, hown, hts, hC, hini, hfr, hlo⟩ := F
  obtain ⟨hvb, hva, hV⟩ := (List.forall_mem_cons.mp hV).imp_right List.forall_mem_cons.mp
  refine lv_lrem hx hb hd (fun z => hne ((ofJ_eq hvb (okI_okJ okI_0)).mp z)) ?_
  rw [← mJ_rem hva hvb]
  exact k ls H locs ⟨hR, hS, hL, List.forall_mem_cons.mpr ⟨tmod_okJ hva, hV⟩⟩
theorem s_lcmp {G : GG} {p : Program} {l : Launch} {e : Env} {R : Room} {s : State} {m : MethodId} {args : Array Value} {below : List Frame} {meth : Method} {c : Code} {Q : State → Prop} {y pc cells slots : Nat} {L : Lv} {r : List AV} {S : Sh} {h : Mem} {a b : Int} (hd : decode (mdN y).2.1 pc = .ok (.lcmp, 1)) (F : XFC G p s m args meth c y R)
    (k : WC G p l e R s m args below meth c Q y (pc + 1) L (.inl (am_lcmp a b) :: r) S h cells slots) : WC G p l e R s m args below meth c Q y pc L (.inr (.inl b) :: .inr (.inl a) :: r) S h cells slots := by
  intro ls H locs ⟨hR, hS, hL, hV⟩
  obtain ⟨hx, hb, hml, hown, hts, hC, hini, hfr, hlo⟩ := F
  obtain ⟨hvb, hva, hV⟩ := (List.forall_mem_cons.mp hV).imp_right List.forall_mem_cons.mp
  refine W.lcmp hx hb hd ?_
  rw [nI_cmp hva hvb]
  exact k ls H locs ⟨hR, hS, hL, List.forall_mem_cons.mpr ⟨lcmp_ok _ _, hV⟩⟩
theorem s_i2l {G : GG} {p : Program} {l : Launch} {e : Env} {R : Room} {s : State} {m : MethodId} {args : Array Value} {below : List Frame} {meth : Method} {c : Code} {Q : State → Prop} {y pc cells slots : Nat} {L : Lv} {r : List AV} {S : Sh} {h : Mem} {a : Int} (hd : decode (mdN y).2.1 pc = .ok (.i2l, 1)) (F : XFC G p s m args meth c y R)
    (k : WC G p l e R s m args below meth c Q y (pc + 1) L (.inr (.inl a) :: r) S h cells slots) : WC G p l e R s m args below meth c Q y pc L (.inl a :: r) S h cells slots := by
  intro ls H locs ⟨hR, hS, hL, hV⟩
  obtain ⟨hx, hb, hml, hown, hts, hC, hini, hfr, hlo⟩ := F
  obtain ⟨hva, hV⟩ := List.forall_mem_cons.mp hV
  exact lv_i2l hx hb hd (nJ_i2l hva) (k ls H locs ⟨hR, hS, hL, List.forall_mem_cons.mpr ⟨okI_okJ hva, hV⟩⟩)
theorem s_l2i {G : GG} {p : Program} {l : Launch} {e : Env} {R : Room} {s : State} {m : MethodId} {args : Array Value} {below : List Frame} {meth : Method} {c : Code} {Q : State → Prop} {y pc cells slots : Nat} {L : Lv} {r : List AV} {S : Sh} {h : Mem} {a : Int} (hd : decode (mdN y).2.1 pc = .ok (.l2i, 1)) (F : XFC G p s m args meth c y R)
    (k : WC G p l e R s m args below meth c Q y (pc + 1) L (.inl (w32 a) :: r) S h cells slots) : WC G p l e R s m args below meth c Q y pc L (.inr (.inl a) :: r) S h cells slots := by
  intro ls H locs ⟨hR, hS, hL, hV⟩
  obtain ⟨hx, hb, hml, hown, hts, hC, hini, hfr, hlo⟩ := F
  obtain ⟨hva, hV⟩ := List.forall_mem_cons.mp hV
  exact lv_l2i hx hb hd (nI_l2i hva) (k ls H locs ⟨hR, hS, hL, List.forall_mem_cons.mpr ⟨w32_ok _, hV⟩⟩)
theorem s_i2b {G : GG} {p : Program} {l : Launch} {e : Env} {R : Room} {s : State} {m : MethodId} {args : Array Value} {below : List Frame} {meth : Method} {c : Code} {Q : State → Prop} {y pc cells slots : Nat} {L : Lv} {r : List AV} {S : Sh} {h : Mem} {a : Int} (hd : decode (mdN y).2.1 pc = .ok (.i2b, 1)) (F : XFC G p s m args meth c y R)
    (k : WC G p l e R s m args below meth c Q y (pc + 1) L (.inl (w8 a) :: r) S h cells slots) : WC G p l e R s m args below meth c Q y pc L (.inl a :: r) S h cells slots := by
  intro ls H locs ⟨hR, hS, hL, hV⟩
  obtain ⟨hx, hb, hml, hown, hts, hC, hini, hfr, hlo⟩ := F
  obtain ⟨hva, hV⟩ := List.forall_mem_cons.mp hV
  exact lv_i2b hx hb hd (nI_i2b hva) (k ls H locs ⟨hR, hS, hL, List.forall_mem_cons.mpr ⟨okI_8 (w8_ok _), hV⟩⟩)
theorem s_i2s {G : GG} {p : Program} {l : Launch} {e : Env} {R : Room} {s : State} {m : MethodId} {args : Array Value} {below : List Frame} {meth : Method} {c : Code} {Q : State → Prop} {y pc cells slots : Nat} {L : Lv} {r : List AV} {S : Sh} {h : Mem} {a : Int} (hd : decode (mdN y).2.1 pc = .ok (.i2s, 1)) (F : XFC G p s m args meth c y R)
    (k : WC G p l e R s m args below meth c Q y (pc + 1) L (.inl (w16 a) :: r) S h cells slots) : WC G p l e R s m args below meth c Q y pc L (.inl a :: r) S h cells slots := by
  intro ls H locs ⟨hR, hS, hL, hV⟩
  obtain ⟨hx, hb, hml, hown, hts, hC, hini, hfr, hlo⟩ := F
  obtain ⟨hva, hV⟩ := List.forall_mem_cons.mp hV
  exact lv_i2s hx hb hd (nI_i2s hva) (k ls H locs ⟨hR, hS, hL, List.forall_mem_cons.mpr ⟨okI_16 (w16_ok _), hV⟩⟩)
theorem s_i2c {G : GG} {p : Program} {l : Launch} {e : Env} {R : Room} {s : State} {m : MethodId} {args : Array Value} {below : List Frame} {meth : Method} {c : Code} {Q : State → Prop} {y pc cells slots : Nat} {L : Lv} {r : List AV} {S : Sh} {h : Mem} {a : Int} (hd : decode (mdN y).2.1 pc = .ok (.i2c, 1)) (F : XFC G p s m args meth c y R)
    (k : WC G p l e R s m args below meth c Q y (pc + 1) L (.inl (am_i2c a) :: r) S h cells slots) : WC G p l e R s m args below meth c Q y pc L (.inl a :: r) S h cells slots := by
  intro ls H locs ⟨hR, hS, hL, hV⟩
  obtain ⟨hx, hb, hml, hown, hts, hC, hini, hfr, hlo⟩ := F
  obtain ⟨hva, hV⟩ := List.forall_mem_cons.mp hV
  have ok : xkI (am_i2c a) := by unfold am_i2c xkI; omega
  refine lv_i2c hx hb hd (v := Int32.ofInt (am_i2c a)) ?_ (k ls H locs ⟨hR, hS, hL, List.forall_mem_cons.mpr ⟨ok, hV⟩⟩)
  apply Int32.toBitVec.inj
  apply BitVec.eq_of_toNat_eq
  show ((BitVec.ofInt 32 a) % (65536 : UInt32).toBitVec).toNat = (BitVec.ofInt 32 (am_i2c a)).toNat
  rw [BitVec.toNat_umod, BitVec.toNat_ofInt, BitVec.toNat_ofInt]
  show _ % 65536 = _
  unfold am_i2c
  omega
theorem s_dup {G : GG} {p : Program} {l : Launch} {e : Env} {R : Room} {s : State} {m : MethodId} {args : Array Value} {below : List Frame} {meth : Method} {c : Code} {Q : State → Prop} {y pc cells slots : Nat} {L : Lv} {r : List AV} {S : Sh} {h : Mem} {v : AV} (hc : cat v = 1) (hd : decode (mdN y).2.1 pc = .ok (.dup, 1)) (F : XFC G p s m args meth c y R)
    (k : WC G p l e R s m args below meth c Q y (pc + 1) L (v :: v :: r) S h cells slots) : WC G p l e R s m args below meth c Q y pc L (v :: r) S h cells slots := by
  intro ls H locs ⟨hR, hS, hL, hV⟩
  obtain ⟨hx, hb, hml, hown, hts, hC, hini, hfr, hlo⟩ := F
  obtain ⟨hva, hV⟩ := List.forall_mem_cons.mp hV
  exact lv_dup hx hb hd (cat_cv1 (CX_ro hC) hva hc) (k ls H locs ⟨hR, hS, hL, List.forall_mem_cons.mpr ⟨hva, List.forall_mem_cons.mpr ⟨hva, hV⟩⟩⟩)
theorem s_pop {G : GG} {p : Program} {l : Launch} {e : Env} {R : Room} {s : State} {m : MethodId} {args : Array Value} {below : List Frame} {meth : Method} {c : Code} {Q : State → Prop} {y pc cells slots : Nat} {L : Lv} {r : List AV} {S : Sh} {h : Mem} {v : AV} (hc : cat v = 1) (hd : decode (mdN y).2.1 pc = .ok (.pop, 1)) (F : XFC G p s m args meth c y R)
    (k : WC G p l e R s m args below meth c Q y (pc + 1) L r S h cells slots) : WC G p l e R s m args below meth c Q y pc L (v :: r) S h cells slots := by
  intro ls H locs ⟨hR, hS, hL, hV⟩
  obtain ⟨hx, hb, hml, hown, hts, hC, hini, hfr, hlo⟩ := F
  obtain ⟨hva, hV⟩ := List.forall_mem_cons.mp hV
  exact lv_pop hx hb hd (cat_cv1 (CX_ro hC) hva hc) (k ls H locs ⟨hR, hS, hL, hV⟩)
theorem s_dup2 {G : GG} {p : Program} {l : Launch} {e : Env} {R : Room} {s : State} {m : MethodId} {args : Array Value} {below : List Frame} {meth : Method} {c : Code} {Q : State → Prop} {y pc cells slots : Nat} {L : Lv} {r : List AV} {S : Sh} {h : Mem} {v w : AV} (hc : cat v = 1 ∧ cat w = 1) (hd : decode (mdN y).2.1 pc = .ok (.dup2, 1)) (F : XFC G p s m args meth c y R)
    (k : WC G p l e R s m args below meth c Q y (pc + 1) L (v :: w :: v :: w :: r) S h cells slots) : WC G p l e R s m args below meth c Q y pc L (v :: w :: r) S h cells slots := by
  intro ls H locs ⟨hR, hS, hL, hV⟩
  obtain ⟨hx, hb, hml, hown, hts, hC, hini, hfr, hlo⟩ := F
  obtain ⟨hvv, hvw, hV⟩ := (List.forall_mem_cons.mp hV).imp_right List.forall_mem_cons.mp
  exact lv_dup2_11 hx hb hd (cat_cv1 (CX_ro hC) hvv hc.1) (cat_cv1 (CX_ro hC) hvw hc.2) (k ls H locs ⟨hR, hS, hL, List.forall_mem_cons.mpr ⟨hvv, List.forall_mem_cons.mpr ⟨hvw, List.forall_mem_cons.mpr ⟨hvv, List.forall_mem_cons.mpr ⟨hvw, hV⟩⟩⟩⟩⟩)
theorem s_goto {G : GG} {p : Program} {l : Launch} {e : Env} {R : Room} {s : State} {m : MethodId} {args : Array Value} {below : List Frame} {meth : Method} {c : Code} {Q : State → Prop} {y pc cells slots : Nat} {L : Lv} {r : List AV} {S : Sh} {h : Mem} {o : Int} (hj : 0 ≤ (pc : Int) + o) (hd : decode (mdN y).2.1 pc = .ok (.goto o, 3)) (F : XFC G p s m args meth c y R)
    (k : WC G p l e R s m args below meth c Q y (tgt pc o) L r S h cells slots) : WC G p l e R s m args below meth c Q y pc L r S h cells slots := by
  intro ls H locs ⟨hR, hS, hL, hV⟩
  obtain ⟨hx, hb, hml, hown, hts, hC, hini, hfr, hlo⟩ := F
  exact lv_goto (tgt := tgt pc o) hx hb hd (by unfold tgt; omega) (k ls H locs ⟨hR, hS, hL, hV⟩)
theorem s_if_eq {G : GG} {p : Program} {l : Launch} {e : Env} {R : Room} {s : State} {m : MethodId} {args : Array Value} {below : List Frame} {meth : Method} {c : Code} {Q : State → Prop} {y pc cells slots : Nat} {L : Lv} {r : List AV} {S : Sh} {h : Mem} {a o : Int} (hj : 0 ≤ (pc : Int) + o) (hd : decode (mdN y).2.1 pc = .ok (.ifCond .eq o, 3)) (F : XFC G p s m args meth c y R)
    (kt : a = 0 → WC G p l e R s m args below meth c Q y (tgt pc o) L r S h cells slots) (kf : ¬ (a = 0) → WC G p l e R s m args below meth c Q y (pc + 3) L r S h cells slots) : WC G p l e R s m args below meth c Q y pc L (.inl a :: r) S h cells slots := by
  intro ls H locs ⟨hR, hS, hL, hV⟩
  obtain ⟨hx, hb, hml, hown, hts, hC, hini, hfr, hlo⟩ := F
  obtain ⟨hva, hV⟩ := List.forall_mem_cons.mp hV
  exact lv_if_eq (tgt := tgt pc o) hx hb hd (by unfold tgt; omega) (fun z => kt ((ofI_eq0 hva).mp z) ls H locs ⟨hR, hS, hL, hV⟩) (fun z => kf (fun q => z ((ofI_eq0 hva).mpr q)) ls H locs ⟨hR, hS, hL, hV⟩)
theorem s_if_lt {G : GG} {p : Program} {l : Launch} {e : Env} {R : Room} {s : State} {m : MethodId} {args : Array Value} {below : List Frame} {meth : Method} {c : Code} {Q : State → Prop} {y pc cells slots : Nat} {L : Lv} {r : List AV} {S : Sh} {h : Mem} {a o : Int} (hj : 0 ≤ (pc : Int) + o) (hd : decode (mdN y).2.1 pc = .ok (.ifCond .lt o, 3)) (F : XFC G p s m args meth c y R)
    (kt : a < 0 → WC G p l e R s m args below meth c Q y (tgt pc o) L r S h cells slots) (kf : ¬ (a < 0) → WC G p l e R s m args below meth c Q y (pc + 3) L r S h cells slots) : WC G p l e R s m args below meth c Q y pc L (.inl a :: r) S h cells slots := by
  intro ls H locs ⟨hR, hS, hL, hV⟩
  obtain ⟨hx, hb, hml, hown, hts, hC, hini, hfr, hlo⟩ := F
  obtain ⟨hva, hV⟩ := List.forall_mem_cons.mp hV
  exact lv_if_lt (tgt := tgt pc o) hx hb hd (by unfold tgt; omega) (fun z => kt ((ofI_lt0 hva).mp z) ls H locs ⟨hR, hS, hL, hV⟩) (fun z => kf (fun q => z ((ofI_lt0 hva).mpr q)) ls H locs ⟨hR, hS, hL, hV⟩)
theorem s_if_ge {G : GG} {p : Program} {l : Launch} {e : Env} {R : Room} {s : State} {m : MethodId} {args : Array Value} {below : List Frame} {meth : Method} {c : Code} {Q : State → Prop} {y pc cells slots : Nat} {L : Lv} {r : List AV} {S : Sh} {h : Mem} {a o : Int} (hj : 0 ≤ (pc : Int) + o) (hd : decode (mdN y).2.1 pc = .ok (.ifCond .ge o, 3)) (F : XFC G p s m args meth c y R)
    (kt : 0 ≤ a → WC G p l e R s m args below meth c Q y (tgt pc o) L r S h cells slots) (kf : ¬ (0 ≤ a) → WC G p l e R s m args below meth c Q y (pc + 3) L r S h cells slots) : WC G p l e R s m args below meth c Q y pc L (.inl a :: r) S h cells slots := by
  intro ls H locs ⟨hR, hS, hL, hV⟩
  obtain ⟨hx, hb, hml, hown, hts, hC, hini, hfr, hlo⟩ := F
  obtain ⟨hva, hV⟩ := List.forall_mem_cons.mp hV
  exact lv_if_ge (tgt := tgt pc o) hx hb hd (by unfold tgt; omega) (fun z => kt ((ofI_le okI_0 hva).mp z) ls H locs ⟨hR, hS, hL, hV⟩) (fun z => kf (fun q => z ((ofI_le okI_0 hva).mpr q)) ls H locs ⟨hR, hS, hL, hV⟩)
theorem s_if_gt {G : GG} {p : Program} {l : Launch} {e : Env} {R : Room} {s : State} {m : MethodId} {args : Array Value} {below : List Frame} {meth : Method} {c : Code} {Q : State → Prop} {y pc cells slots : Nat} {L : Lv} {r : List AV} {S : Sh} {h : Mem} {a o : Int} (hj : 0 ≤ (pc : Int) + o) (hd : decode (mdN y).2.1 pc = .ok (.ifCond .gt o, 3)) (F : XFC G p s m args meth c y R)
    (kt : 0 < a → WC G p l e R s m args below meth c Q y (tgt pc o) L r S h cells slots) (kf : ¬ (0 < a) → WC G p l e R s m args below meth c Q y (pc + 3) L r S h cells slots) : WC G p l e R s m args below meth c Q y pc L (.inl a :: r) S h cells slots := by
  intro ls H locs ⟨hR, hS, hL, hV⟩
  obtain ⟨hx, hb, hml, hown, hts, hC, hini, hfr, hlo⟩ := F
  obtain ⟨hva, hV⟩ := List.forall_mem_cons.mp hV
  exact lv_if_gt (tgt := tgt pc o) hx hb hd (by unfold tgt; omega) (fun z => kt ((ofI_gt0 hva).mp z) ls H locs ⟨hR, hS, hL, hV⟩) (fun z => kf (fun q => z ((ofI_gt0 hva).mpr q)) ls H locs ⟨hR, hS, hL, hV⟩)
theorem s_if_le {G : GG} {p : Program} {l : Launch} {e : Env} {R : Room} {s : State} {m : MethodId} {args : Array Value} {below : List Frame} {meth : Method} {c : Code} {Q : State → Prop} {y pc cells slots : Nat} {L : Lv} {r : List AV} {S : Sh} {h : Mem} {a o : Int} (hj : 0 ≤ (pc : Int) + o) (hd : decode (mdN y).2.1 pc = .ok (.ifCond .le o, 3)) (F : XFC G p s m args meth c y R)
    (kt : a ≤ 0 → WC G p l e R s m args below meth c Q y (tgt pc o) L r S h cells slots) (kf : ¬ (a ≤ 0) → WC G p l e R s m args below meth c Q y (pc + 3) L r S h cells slots) : WC G p l e R s m args below meth c Q y pc L (.inl a :: r) S h cells slots := by
  intro ls H locs ⟨hR, hS, hL, hV⟩
  obtain ⟨hx, hb, hml, hown, hts, hC, hini, hfr, hlo⟩ := F
  obtain ⟨hva, hV⟩ := List.forall_mem_cons.mp hV
  exact lv_if_le (tgt := tgt pc o) hx hb hd (by unfold tgt; omega) (fun z => kt ((ofI_le hva okI_0).mp z) ls H locs ⟨hR, hS, hL, hV⟩) (fun z => kf (fun q => z ((ofI_le hva okI_0).mpr q)) ls H locs ⟨hR, hS, hL, hV⟩)
theorem s_icmp_eq {G : GG} {p : Program} {l : Launch} {e : Env} {R : Room} {s : State} {m : MethodId} {args : Array Value} {below : List Frame} {meth : Method} {c : Code} {Q : State → Prop} {y pc cells slots : Nat} {L : Lv} {r : List AV} {S : Sh} {h : Mem} {a b o : Int} (hj : 0 ≤ (pc : Int) + o) (hd : decode (mdN y).2.1 pc = .ok (.if_icmp .eq o, 3)) (F : XFC G p s m args meth c y R)
    (kt : a = b → WC G p l e R s m args below meth c Q y (tgt pc o) L r S h cells slots) (kf : ¬ (a = b) → WC G p l e R s m args below meth c Q y (pc + 3) L r S h cells slots) : WC G p l e R s m args below meth c Q y pc L (.inl b :: .inl a :: r) S h cells slots := by
  intro ls H locs ⟨hR, hS, hL, hV⟩
  obtain ⟨hx, hb, hml, hown, hts, hC, hini, hfr, hlo⟩ := F
  obtain ⟨hvb, hva, hV⟩ := (List.forall_mem_cons.mp hV).imp_right List.forall_mem_cons.mp
  exact lv_icmp_eq (tgt := tgt pc o) hx hb hd (by unfold tgt; omega) (fun z => kt ((ofI_eq hva hvb).mp z) ls H locs ⟨hR, hS, hL, hV⟩) (fun z => kf (fun q => z ((ofI_eq hva hvb).mpr q)) ls H locs ⟨hR, hS, hL, hV⟩)
theorem s_icmp_lt {G : GG} {p : Program} {l : Launch} {e : Env} {R : Room} {s : State} {m : MethodId} {args : Array Value} {below : List Frame} {meth : Method} {c : Code} {Q : State → Prop} {y pc cells slots : Nat} {L : Lv} {r : List AV} {S : Sh} {h : Mem} {a b o : Int} (hj : 0 ≤ (pc : Int) + o) (hd : decode (mdN y).2.1 pc = .ok (.if_icmp .lt o, 3)) (F : XFC G p s m args meth c y R)
    (kt : a < b → WC G p l e R s m args below meth c Q y (tgt pc o) L r S h cells slots) (kf : ¬ (a < b) → WC G p l e R s m args below meth c Q y (pc + 3) L r S h cells slots) : WC G p l e R s m args below meth c Q y pc L (.inl b :: .inl a :: r) S h cells slots := by
  intro ls H locs ⟨hR, hS, hL, hV⟩
  obtain ⟨hx, hb, hml, hown, hts, hC, hini, hfr, hlo⟩ := F
  obtain ⟨hvb, hva, hV⟩ := (List.forall_mem_cons.mp hV).imp_right List.forall_mem_cons.mp
  exact lv_icmp_lt (tgt := tgt pc o) hx hb hd (by unfold tgt; omega) (fun z => kt ((ofI_lt hva hvb).mp z) ls H locs ⟨hR, hS, hL, hV⟩) (fun z => kf (fun q => z ((ofI_lt hva hvb).mpr q)) ls H locs ⟨hR, hS, hL, hV⟩)
theorem s_icmp_ge {G : GG} {p : Program} {l : Launch} {e : Env} {R : Room} {s : State} {m : MethodId} {args : Array Value} {below : List Frame} {meth : Method} {c : Code} {Q : State → Prop} {y pc cells slots : Nat} {L : Lv} {r : List AV} {S : Sh} {h : Mem} {a b o : Int} (hj : 0 ≤ (pc : Int) + o) (hd : decode (mdN y).2.1 pc = .ok (.if_icmp .ge o, 3)) (F : XFC G p s m args meth c y R)
    (kt : b ≤ a → WC G p l e R s m args below meth c Q y (tgt pc o) L r S h cells slots) (kf : ¬ (b ≤ a) → WC G p l e R s m args below meth c Q y (pc + 3) L r S h cells slots) : WC G p l e R s m args below meth c Q y pc L (.inl b :: .inl a :: r) S h cells slots := by
  intro ls H locs ⟨hR, hS, hL, hV⟩
  obtain ⟨hx, hb, hml, hown, hts, hC, hini, hfr, hlo⟩ := F
  obtain ⟨hvb, hva, hV⟩ := (List.forall_mem_cons.mp hV).imp_right List.forall_mem_cons.mp
  exact lv_icmp_ge (tgt := tgt pc o) hx hb hd (by unfold tgt; omega) (fun z => kt ((ofI_le hvb hva).mp z) ls H locs ⟨hR, hS, hL, hV⟩) (fun z => kf (fun q => z ((ofI_le hvb hva).mpr q)) ls H locs ⟨hR, hS, hL, hV⟩)
theorem s_icmp_gt {G : GG} {p : Program} {l : Launch} {e : Env} {R : Room} {s : State} {m : MethodId} {args : Array Value} {below : List Frame} {meth : Method} {c : Code} {Q : State → Prop} {y pc cells slots : Nat} {L : Lv} {r : List AV} {S : Sh} {h : Mem} {a b o : Int} (hj : 0 ≤ (pc : Int) + o) (hd : decode (mdN y).2.1 pc = .ok (.if_icmp .gt o, 3)) (F : XFC G p s m args meth c y R)
    (kt : b < a → WC G p l e R s m args below meth c Q y (tgt pc o) L r S h cells slots) (kf : ¬ (b < a) → WC G p l e R s m args below meth c Q y (pc + 3) L r S h cells slots) : WC G p l e R s m args below meth c Q y pc L (.inl b :: .inl a :: r) S h cells slots := by
  intro ls H locs ⟨hR, hS, hL, hV⟩
  obtain ⟨hx, hb, hml, hown, hts, hC, hini, hfr, hlo⟩ := F
  obtain ⟨hvb, hva, hV⟩ := (List.forall_mem_cons.mp hV).imp_right List.forall_mem_cons.mp
  exact lv_icmp_gt (tgt := tgt pc o) hx hb hd (by unfold tgt; omega) (fun z => kt ((ofI_lt hvb hva).mp z) ls H locs ⟨hR, hS, hL, hV⟩) (fun z => kf (fun q => z ((ofI_lt hvb hva).mpr q)) ls H locs ⟨hR, hS, hL, hV⟩)
theorem s_icmp_le {G : GG} {p : Program} {l : Launch} {e : Env} {R : Room} {s : State} {m : MethodId} {args : Array Value} {below : List Frame} {meth : Method} {c : Code} {Q : State → Prop} {y pc cells slots : Nat} {L : Lv} {r : List AV} {S : Sh} {h : Mem} {a b o : Int} (hj : 0 ≤ (pc : Int) + o) (hd : decode (mdN y).2.1 pc = .ok (.if_icmp .le o, 3)) (F : XFC G p s m args meth c y R)
    (kt : a ≤ b → WC G p l e R s m args below meth c Q y (tgt pc o) L r S h cells slots) (kf : ¬ (a ≤ b) → WC G p l e R s m args below meth c Q y (pc + 3) L r S h cells slots) : WC G p l e R s m args below meth c Q y pc L (.inl b :: .inl a :: r) S h cells slots := by
  intro ls H locs ⟨hR, hS, hL, hV⟩
  obtain ⟨hx, hb, hml, hown, hts, hC, hini, hfr, hlo⟩ := F
  obtain ⟨hvb, hva, hV⟩ := (List.forall_mem_cons.mp hV).imp_right List.forall_mem_cons.mp
  exact lv_icmp_le (tgt := tgt pc o) hx hb hd (by unfold tgt; omega) (fun z => kt ((ofI_le hva hvb).mp z) ls H locs ⟨hR, hS, hL, hV⟩) (fun z => kf (fun q => z ((ofI_le hva hvb).mpr q)) ls H locs ⟨hR, hS, hL, hV⟩)
theorem s_if_ne {G : GG} {p : Program} {l : Launch} {e : Env} {R : Room} {s : State} {m : MethodId} {args : Array Value} {below : List Frame} {meth : Method} {c : Code} {Q : State → Prop} {y pc cells slots : Nat} {L : Lv} {r : List AV} {S : Sh} {h : Mem} {a o : Int} (hj : 0 ≤ (pc : Int) + o) (hd : decode (mdN y).2.1 pc = .ok (.ifCond .ne o, 3)) (F : XFC G p s m args meth c y R)
    (kt : ¬ a = 0 → WC G p l e R s m args below meth c Q y (tgt pc o) L r S h cells slots) (kf : a = 0 → WC G p l e R s m args below meth c Q y (pc + 3) L r S h cells slots) : WC G p l e R s m args below meth c Q y pc L (.inl a :: r) S h cells slots := by
  intro ls H locs ⟨hR, hS, hL, hV⟩
  obtain ⟨hx, hb, hml, hown, hts, hC, hini, hfr, hlo⟩ := F
  obtain ⟨hva, hV⟩ := List.forall_mem_cons.mp hV
  exact lv_if_ne (tgt := tgt pc o) hx hb hd (by unfold tgt; omega) (fun z => kt (fun q => z ((ofI_eq0 hva).mpr q)) ls H locs ⟨hR, hS, hL, hV⟩) (fun z => kf ((ofI_eq0 hva).mp z) ls H locs ⟨hR, hS, hL, hV⟩)
theorem s_icmp_ne {G : GG} {p : Program} {l : Launch} {e : Env} {R : Room} {s : State} {m : MethodId} {args : Array Value} {below : List Frame} {meth : Method} {c : Code} {Q : State → Prop} {y pc cells slots : Nat} {L : Lv} {r : List AV} {S : Sh} {h : Mem} {a b o : Int} (hj : 0 ≤ (pc : Int) + o) (hd : decode (mdN y).2.1 pc = .ok (.if_icmp .ne o, 3)) (F : XFC G p s m args meth c y R)
    (kt : ¬ a = b → WC G p l e R s m args below meth c Q y (tgt pc o) L r S h cells slots) (kf : a = b → WC G p l e R s m args below meth c Q y (pc + 3) L r S h cells slots) : WC G p l e R s m args below meth c Q y pc L (.inl b :: .inl a :: r) S h cells slots := by
  intro ls H locs ⟨hR, hS, hL, hV⟩
  obtain ⟨hx, hb, hml, hown, hts, hC, hini, hfr, hlo⟩ := F
  obtain ⟨hvb, hva, hV⟩ := (List.forall_mem_cons.mp hV).imp_right List.forall_mem_cons.mp
  exact lv_icmp_ne (tgt := tgt pc o) hx hb hd (by unfold tgt; omega) (fun z => kt (fun q => z ((ofI_eq hva hvb).mpr q)) ls H locs ⟨hR, hS, hL, hV⟩) (fun z => kf ((ofI_eq hva hvb).mp z) ls H locs ⟨hR, hS, hL, hV⟩)
