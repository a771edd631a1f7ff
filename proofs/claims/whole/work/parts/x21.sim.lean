/-! THE MACHINE RUNS AS THE ABSTRACT MACHINE DOES -/
def isRet (i : Instr) : Bool := match i with
  | .ireturn => true
  | .lreturn => true
  | .return_ => true
  | _ => false
theorem stepK_noret (X : Xs) (rk : Nat) (i : Instr) (len : Nat) (ax : Nat × Nat × Nat × Int) (pc : Nat) (ls : Lv) (st : List AV) (S : Sh) (h : Mem) (hi : isRet i = false) :
    stepK X rk i len ax pc ls st S h True (fun _ _ _ _ _ => True) (fun _ _ _ _ _ _ _ => True) (fun _ _ _ => False) := by
  cases i
  case ireturn => cases hi
  case lreturn => cases hi
  case return_ => cases hi
  case ifCond c o => cases c <;> (simp only [stepK, pI, ite_self]; split <;> trivial)
  case if_icmp c o => cases c <;> (simp only [stepK, pII, ite_self]; split <;> trivial)
  case tableswitch d lo hi offs =>
    simp only [stepK, pI]
    split
    · split
      · generalize offs.toList = l
        generalize lo = z
        induction l generalizing z with
        | nil => trivial
        | cons a l ih => unfold tsw; split; trivial; exact ih _
      · trivial
    · trivial
  case lookupswitch d ps =>
    simp only [stepK, pI]
    split
    · generalize ps.toList = l
      induction l with
      | nil => trivial
      | cons a l ih => unfold lsw; split; trivial; exact ih
    · trivial
  all_goals first
    | trivial
    | (simp only [stepK, pI, pII, pJ, pJJ, pJI, pA, pAI, pAII, pAIJ, pAIA, pVA, pV, pVV, pCP, oK, ite_self]; repeat' (first | trivial | split))
theorem noret_of {X : Xs} {rk : Nat} {i : Instr} {len : Nat} {ax : Nat × Nat × Nat × Int} {pc : Nat} {L : Lv} {st : List AV} {S : Sh} {h : Mem} {r : Res} (hs : stepQ X rk i len ax pc L st S h = some (.inr (.inr r))) (hi : isRet i = false) : False := by
  have hk := stepK_noret X rk i len ax pc L st S h hi
  rw [stepK_run, hs] at hk
  exact hk
theorem i2c_id {a : Int} (h : 0 ≤ a ∧ a < 65536) : ((Int32.ofInt a).toUInt32 % 65536).toInt32 = Int32.ofInt a := by
  apply Int32.toBitVec.inj
  apply BitVec.eq_of_toNat_eq
  show ((BitVec.ofInt 32 a) % (65536 : UInt32).toBitVec).toNat = (BitVec.ofInt 32 a).toNat
  rw [BitVec.toNat_umod, BitVec.toNat_ofInt]
  show _ % 65536 = _
  omega
theorem xw8_id {a : Int} (h : -128 ≤ a ∧ a < 128) : w8 a = a := by
  unfold w8
  exact Int.bmod_eq_of_le (by omega) (by omega)
theorem rkT_cases {rt : Option FieldType} : (rkT rt = 0 → rt = none) ∧ (rkT rt = 1 → rt = some .int) ∧ (rkT rt = 2 → rt = some .long) ∧ (rkT rt = 3 → rt = some .boolean) ∧ (rkT rt = 4 → rt = some .byte ∨ rt = some .char) := by
  unfold rkT
  split <;> refine ⟨fun h => ?_, fun h => ?_, fun h => ?_, fun h => ?_, fun h => ?_⟩ <;> first | (cases h; done) | rfl | exact Or.inl rfl | exact Or.inr rfl | (exact absurd h (by decide))
theorem retW {G : GG} {p : Program} {l : Launch} {e : Env} {R : Room} {s : State} {m : MethodId} {args : Array Value} {below : List Frame} {meth : Method} {c : Code} {y pc cells slots : Nat} {L : Lv} {st : List AV} {S : Sh} {h : Mem} {rk len : Nat} {ax : Nat × Nat × Nat × Int} {i : Instr} {r : Res} {rt : Option FieldType}
    (F : XFC G p s m args meth c y R) (hrt : meth.sig.returnType = rt) (hrk : rkT rt = rk) (hlocks : meth.locks = false) (hd : decode (mdN y).2.1 pc = .ok (i, len)) (hln : lnB i len = true)
    (hs : stepQ (gX G) rk i len ax pc L st S h = some (.inr (.inr r))) : WC G p l e R s m args below meth c (MQ below (CQ G r) args s cells slots (gA G)) y pc L st S h cells slots := by
  intro ls H locs ⟨hR, hS, hL, hV⟩
  obtain ⟨hx, hb, hml, hown, hts, hC, hini, hfr, hlo⟩ := F
  have fin : ∀ (t : State) (v : Option AV), t.heap = H → (∀ x, v = some x → okV S x) → CQ G (v, S, h) args s (.returned (v.map (cv G))) t := fun t v ht hv => ⟨rfl, hv, by rw [ht]; exact hR, hS.F ht⟩
  cases i
  case ireturn =>
    have hln : len = 1 := by simpa [lnB, lnI] using hln
    subst hln
    unfold stepQ stepK at hs
    dsimp only at hs
    obtain ⟨a, w, rfl, ht⟩ := pI_some hs
    obtain ⟨hva, -⟩ := List.forall_mem_cons.mp hV
    cases w with
    | cons _ _ => cases ht
    | nil =>
      dsimp only at ht
      have hok : ∀ x, (some (.inl a) : Option AV) = some x → okV S x := fun x hx => by cases hx; exact hva
      split at ht
      · next q =>
        cases ht
        have := rkT_cases.2.1 (hrk.trans q)
        subst this
        exact W.iret (v := Int32.ofInt a) hx hb hrt (fun t ht _ => fin t _ ht hok) hS.2.2 hd hlocks
      · split at ht
        · next q =>
          split at ht
          case isFalse => cases ht
          next q2 =>
          cases ht
          have := rkT_cases.2.2.2.1 (hrk.trans q)
          subst this
          exact W.zret (v := Int32.ofInt a) (ty := .boolean) hx hb hrt (by rcases q2 with rfl | rfl <;> rfl) (fun t ht _ => fin t _ ht hok) hS.2.2 hd hlocks
        · split at ht
          case isFalse => cases ht
          next q =>
          split at ht
          case isFalse => cases ht
          next q2 =>
          cases ht
          rcases rkT_cases.2.2.2.2 (hrk.trans q) with this | this
          · subst this
            refine W.zret (v := Int32.ofInt a) (ty := .byte) hx hb hrt ?_ (fun t ht _ => fin t _ ht hok) hS.2.2 hd hlocks
            have e1 : narrow .byte (.int (Int32.ofInt a)) = .int ((Int32.ofInt a).toInt8.toInt32) := rfl
            rw [e1, nI_i2b hva, xw8_id (by omega)]
          · subst this
            refine W.zret (v := Int32.ofInt a) (ty := .char) hx hb hrt ?_ (fun t ht _ => fin t _ ht hok) hS.2.2 hd hlocks
            have e1 : narrow .char (.int (Int32.ofInt a)) = .int (((Int32.ofInt a).toUInt32 % 65536).toInt32) := rfl
            rw [e1, i2c_id (by omega)]
  case lreturn =>
    have hln : len = 1 := by simpa [lnB, lnI] using hln
    subst hln
    unfold stepQ stepK at hs
    dsimp only at hs
    obtain ⟨a, w, rfl, ht⟩ := pJ_some hs
    obtain ⟨hva, -⟩ := List.forall_mem_cons.mp hV
    cases w with
    | cons _ _ => cases ht
    | nil =>
      dsimp only at ht
      have hok : ∀ x, (some (.inr (.inl a)) : Option AV) = some x → okV S x := fun x hx => by cases hx; exact hva
      split at ht
      case isFalse => cases ht
      next q =>
      cases ht
      have := rkT_cases.2.2.1 (hrk.trans q)
      subst this
      exact W.lret (v := Int64.ofInt a) hx hb hrt (fun t ht _ => fin t _ ht hok) hS.2.2 hd hlocks
  case return_ =>
    have hln : len = 1 := by simpa [lnB, lnI] using hln
    subst hln
    unfold stepQ stepK at hs
    dsimp only at hs
    cases st with
    | cons _ _ => cases hs
    | nil =>
      dsimp only at hs
      split at hs
      case isFalse => cases hs
      next q =>
      cases hs
      have := rkT_cases.1 (hrk.trans q)
      subst this
      exact W.vret hx hb hrt (fun t ht _ => fin t none ht (fun x hx => by cases hx)) hS.2.2 hd hlocks
  all_goals exact (noret_of hs rfl).elim
def isCall (i : Instr) : Bool := match i with
  | .invokevirtual _ => true
  | .invokespecial _ => true
  | .invokestatic _ => true
  | _ => false
theorem stepK_nocall (X : Xs) (rk : Nat) (i : Instr) (len : Nat) (ax : Nat × Nat × Nat × Int) (pc : Nat) (ls : Lv) (st : List AV) (S : Sh) (h : Mem) (hi : isCall i = false) :
    stepK X rk i len ax pc ls st S h True (fun _ _ _ _ _ => True) (fun _ _ _ _ _ _ _ => False) (fun _ _ _ => True) := by
  cases i
  case invokevirtual => cases hi
  case invokespecial => cases hi
  case invokestatic => cases hi
  case ifCond c o => cases c <;> (simp only [stepK, pI, ite_self]; split <;> trivial)
  case if_icmp c o => cases c <;> (simp only [stepK, pII, ite_self]; split <;> trivial)
  case tableswitch d lo hi offs =>
    simp only [stepK, pI]
    split
    · split
      · generalize offs.toList = l
        generalize lo = z
        induction l generalizing z with
        | nil => trivial
        | cons a l ih => unfold tsw; split; trivial; exact ih _
      · trivial
    · trivial
  case lookupswitch d ps =>
    simp only [stepK, pI]
    split
    · generalize ps.toList = l
      induction l with
      | nil => trivial
      | cons a l ih => unfold lsw; split; trivial; exact ih
    · trivial
  all_goals first
    | trivial
    | (simp only [stepK, pI, pII, pJ, pJJ, pJI, pA, pAI, pAII, pAIJ, pAIA, pVA, pV, pVV, pCP, oK, ite_self]; repeat' (first | trivial | split))
theorem nocall_of {X : Xs} {rk : Nat} {i : Instr} {len : Nat} {ax : Nat × Nat × Nat × Int} {pc : Nat} {L : Lv} {st : List AV} {S : Sh} {h : Mem} {r : Cll} (hs : stepQ X rk i len ax pc L st S h = some (.inr (.inl r))) (hi : isCall i = false) : False := by
  have hk := stepK_nocall X rk i len ax pc L st S h hi
  rw [stepK_run, hs] at hk
  exact hk
theorem chk_mb {y : Nat} (h : chkM y = true) : plainName (mdN y).1.cls = true ∧ (mdN y).1.cls = ownN (ownY.getD y 0) ∧ rkT (mdN y).2.2.2 = rkOf y ∧ (mdN y).2.2.1 = mlOf y ∧ (mdN y).2.2.1 ≤ 40 ∧ (mdN y).1.cls ≠ "java/lang/invoke/MethodHandle" ∧ (mdN y).1.cls ≠ "java/lang/invoke/VarHandle" ∧ ∀ e ∈ tabOf y, decode (mdN y).2.1 e.1 = .ok e.2.1 ∧ lnB e.2.1.1 e.2.1.2 = true ∧ eB (ownY.getD y 0) ((mdN y).1.name == "<init>") (mdN y).2.2.1 e.1 e.2.1.1 e.2.1.2 e.2.2 = true := by
  unfold chkM at h
  simp only [Bool.and_eq_true, beq_iff_eq, decide_eq_true_eq, Bool.not_eq_true', beq_eq_false_iff_ne] at h
  obtain ⟨⟨⟨⟨⟨⟨⟨h1, h2⟩, h3⟩, h4⟩, h5⟩, h6⟩, h7⟩, h8⟩ := h
  refine ⟨h1, h2, h3, h4, h5, h6, h7, fun e he => ?_⟩
  have := List.all_eq_true.mp h8 e he
  simp only [Bool.and_eq_true, decide_eq_true_eq] at this
  exact ⟨this.1.1, this.1.2, this.2⟩
theorem ftch_mem {pc : Nat} {q : (Instr × Nat) × (Nat × Nat × Nat × Int)} : ∀ {t : List TE}, ftch pc t = some q → (pc, q) ∈ t
  | [], h => by cases h
  | e :: t, h => by
    unfold ftch at h
    cases hb : Nat.beq e.1 pc with
    | true =>
      rw [hb] at h
      cases h
      have : e.1 = pc := Nat.eq_of_beq_eq_true hb
      subst this
      exact List.mem_cons_self
    | false =>
      rw [hb] at h
      exact List.mem_cons_of_mem _ (ftch_mem h)
theorem take_drop_eq {st : List AV} {n : Nat} {z : List AV} (h : st.drop n = z) : st = st.take n ++ z := by rw [← h, List.take_append_drop]
theorem mls_no : ∀ f ∈ tx_mls, f.2.2.1 ≠ 338 := by decide +kernel
theorem callW {G : GG} {p : Program} {l : Launch} {e : Env} {R : Room} {s : State} {m : MethodId} {args : Array Value} {below : List Frame} {meth : Method} {c : Code} {Q : State → Prop} {y pc cells slots : Nat} {L : Lv} {st : List AV} {S : Sh} {h : Mem} {rk len d : Nat} {ax : Nat × Nat × Nat × Int} {i : Instr} {cl : Cll} {res : Res}
    (F : XFC G p s m args meth c y R) (K : LK) (CH : ∀ y, y < 347 → chkM y = true) (hz : s.heap.size + cells = gz G + (S.length - 1)) (hcls : (mdN y).1.cls = ownN (ownY.getD y 0))
    (hE : eB (ownY.getD y 0) ((mdN y).1.name == "<init>") (mdN y).2.2.1 pc i len ax = true) (hd : decode (mdN y).2.1 pc = .ok (i, len)) (hln : lnB i len = true)
    (hs : stepQ (gX G) rk i len ax pc L st S h = some (.inr (.inl cl))) (hgd : gd cl.1 cl.2.1 = true) (hM : CT G l d cl.1 cl.2.1 S h res) (hf : d + 2 ≤ R.frames) (hl : (d + 2) * 64 ≤ R.locals) (hg : S.length ≤ res.2.1.length) (hc1 : cells + (res.2.1.length - S.length) ≤ R.cells) (hc2 : slots + (slt res.2.1 - slt S) ≤ R.slots)
    (k : WC G p l e R s m args below meth c Q y cl.2.2.1 cl.2.2.2.1 (res.1.toList ++ cl.2.2.2.2.1) res.2.1 res.2.2 (cells + (res.2.1.length - S.length)) (slots + (slt res.2.1 - slt S))) :
    WC G p l e R s m args below meth c Q y pc L st S h cells slots := by
  have hy : cl.1 < 347 := by
    unfold gd at hgd
    simp only [Bool.and_eq_true] at hgd
    exact Nat.le_of_ble_eq_true hgd.1
  have h338 : cl.1 ≠ 338 ∨ cl.1 = 338 := by omega
  have hmb := chk_mb (CH cl.1 hy)
  have mk : ∀ {ix n : Nat}, (tx_mls.any (fun f => f.1 == ownY.getD y 0 && f.2.1 == ix && f.2.2.1 == cl.1) = true) → argN (mdN cl.1).1.desc = some n → clOk (mdN y).1.cls ix cl.1 n := by
    intro ix n h1 h3
    obtain ⟨f, g1, g2⟩ := List.any_eq_true.mp h1
    simp only [Bool.and_eq_true, beq_iff_eq] at g2
    obtain ⟨⟨g2, g3⟩, g4⟩ := g2
    have hk := K.2.1 f g1
    have hne : cl.1 ≠ 338 := by rw [← g4]; exact mls_no f g1
    rw [g2, g3, g4, ← hcls] at hk
    exact ⟨hk, K.2.2.2.2.2.2.2.2.2.2.2.2.1 cl.1 hy hne, K.2.2.2.2.2.2.2.2.2.2.2.1 cl.1 hy, hmb.2.2.2.2.2.1, hmb.2.2.2.2.2.2.1, h3, hmb.2.2.2.2.1⟩
  cases i
  case invokevirtual x =>
    have hln : len = 3 := by simpa [lnB, lnI] using hln
    subst hln
    unfold stepQ stepK at hs
    dsimp only at hs
    obtain ⟨a, r, h1, ht⟩ := pA_some hs
    split at ht
    case isFalse => cases ht
    next hcat =>
    have hst := take_drop_eq h1
    simp only [eB, Bool.or_eq_true, Bool.and_eq_true, beq_iff_eq, decide_eq_true_eq] at hE
    have core : cl = (ax.1, .inr (.inr a) :: (st.take ax.2.1).reverse, pc + 3, L, r, S, h) → ((∃ ci, ci < 12 ∧ kd S a = ci ∧ (mdN cl.1).1.cls = (clN ci).1) ∨ ((a = -8 ∨ a = -9) ∧ (mdN cl.1).1.cls = "java/lang/String")) → WC G p l e R s m args below meth c Q y pc L st S h cells slots := by
      intro e1 e2
      subst e1
      dsimp only at *
      rcases hE with hE | ⟨⟨⟨⟨⟨m1, m2⟩, m3⟩, m4⟩, m5⟩, -⟩
      · omega
      · have hlen : (st.take ax.2.1).length = ax.2.1 := by
          rw [List.length_take]
          have : ax.2.1 < st.length := by
            rcases Nat.lt_or_ge ax.2.1 st.length with z | z
            · exact z
            · rw [List.drop_eq_nil_of_le z] at h1; cases h1
          omega
        obtain ⟨f3, g3, g3'⟩ := List.any_eq_true.mp m3
        obtain ⟨f4, g4, g4'⟩ := List.any_eq_true.mp m4
        simp only [beq_iff_eq] at g3' g4'
        have hi := K.2.2.2.2.2.2.2.2.1 f3 g3
        have hse := K.2.2.2.2.2.2.2.2.2.2.1 f4 g4
        rw [g3'] at hi
        rw [g4'] at hse
        have := s_call (G := G) (p := p) (l := l) (e := e) (R := R) (s := s) (m := m) (args := args) (below := below) (meth := meth) (c := c) (Q := Q) (y := y) (pc := pc) (L := L) (as := st.take ax.2.1) (r := r) (i := .invokevirtual x) hcat (mk m1 (by rw [m5, hlen])) hM hf hl hg hz hc1 hc2 (Or.inr ⟨a, rfl, Or.inl ⟨rfl, hi, hse, e2⟩⟩) hd F k
        have e3 : st.take ax.2.1 ++ (((.inr (.inr a) : AV) :: (st.take ax.2.1).reverse).take (((.inr (.inr a) : AV) :: (st.take ax.2.1).reverse).length - (st.take ax.2.1).length)).reverse ++ r = st := by
          rw [show (((.inr (.inr a) : AV) :: (st.take ax.2.1).reverse).length - (st.take ax.2.1).length) = 1 by simp]
          simp only [List.take_succ_cons, List.take_zero, List.reverse_singleton]
          rw [List.append_assoc, List.singleton_append]
          exact hst.symm
        rw [e3] at this
        exact this
    split at ht
    · next q =>
      split at ht
      case isFalse => cases ht
      next ha =>
      cases ht
      refine core rfl (Or.inr ⟨ha, ?_⟩)
      rcases hE with hE | hE
      · dsimp only at hy; omega
      · have := hE.2
        rw [if_pos q] at this
        simpa using this
    · next q =>
      split at ht
      case isFalse => cases ht
      next ha =>
      cases ht
      refine core rfl (Or.inl ⟨ax.2.2.1, ?_⟩)
      rcases hE with hE | hE
      · dsimp only at hy; omega
      · have := hE.2
        rw [if_neg q] at this
        simp only [Bool.and_eq_true, decide_eq_true_eq, beq_iff_eq] at this
        exact ⟨this.1, ha, this.2⟩
  case invokespecial x =>
    have hln : len = 3 := by simpa [lnB, lnI] using hln
    subst hln
    unfold stepQ stepK at hs
    dsimp only at hs
    split at hs
    · obtain ⟨a, r, h1, ht⟩ := pA_some hs
      split at ht
      case isFalse => cases ht
      split at ht <;> cases ht
    · next q =>
      obtain ⟨a, r, h1, ht⟩ := pA_some hs
      split at ht
      case isFalse => cases ht
      next hcat =>
      split at ht
      case isFalse => cases ht
      next hkd =>
      cases ht
      dsimp only at *
      have hst := take_drop_eq h1
      simp only [eB] at hE
      rw [if_neg q] at hE
      simp only [Bool.or_eq_true, Bool.and_eq_true, beq_iff_eq, decide_eq_true_eq] at hE
      rcases hE with hE | ⟨⟨⟨⟨⟨⟨m1, m2⟩, m3⟩, m5⟩, m6⟩, m7⟩, hci⟩
      · omega
      · have hlen : (st.take ax.2.1).length = ax.2.1 := by
          rw [List.length_take]
          have : ax.2.1 < st.length := by
            rcases Nat.lt_or_ge ax.2.1 st.length with z | z
            · exact z
            · rw [List.drop_eq_nil_of_le z] at h1; cases h1
          omega
        obtain ⟨f3, g3, g3'⟩ := List.any_eq_true.mp m3
        simp only [beq_iff_eq] at g3'
        have hi := K.2.2.2.2.2.2.2.2.1 f3 g3
        rw [g3'] at hi
        have := s_call (G := G) (p := p) (l := l) (e := e) (R := R) (s := s) (m := m) (args := args) (below := below) (meth := meth) (c := c) (Q := Q) (y := y) (pc := pc) (L := L) (as := st.take ax.2.1) (r := r) (i := .invokespecial x) hcat (mk m1 (by rw [m5, hlen])) hM hf hl hg hz hc1 hc2 (Or.inr ⟨a, rfl, Or.inr ⟨rfl, hi, m6, m7, ax.2.2.1, hci, hkd⟩⟩) hd F k
        have e3 : st.take ax.2.1 ++ (((.inr (.inr a) : AV) :: (st.take ax.2.1).reverse).take (((.inr (.inr a) : AV) :: (st.take ax.2.1).reverse).length - (st.take ax.2.1).length)).reverse ++ r = st := by
          rw [show (((.inr (.inr a) : AV) :: (st.take ax.2.1).reverse).length - (st.take ax.2.1).length) = 1 by simp]
          simp only [List.take_succ_cons, List.take_zero, List.reverse_singleton]
          rw [List.append_assoc, List.singleton_append]
          exact hst.symm
        rw [e3] at this
        exact this
  case invokestatic x =>
    have hln : len = 3 := by simpa [lnB, lnI] using hln
    subst hln
    unfold stepQ stepK at hs
    dsimp only at hs
    split at hs
    · obtain ⟨a, p0, q0, d0, n0, r, h1, ht⟩ := pCP_some hs
      split at ht
      case isFalse => cases ht
      obtain ⟨v, -, ht⟩ := xoK_some ht
      cases ht
    · next q =>
      split at hs
      · obtain ⟨a, b, r, h1, ht⟩ := pII_some hs
        split at ht <;> cases ht
      next q2 =>
      split at hs
      · obtain ⟨a, b, r, h1, ht⟩ := pII_some hs
        split at ht <;> cases ht
      next q3 =>
      split at hs
      · obtain ⟨a, r, h1, ht⟩ := pI_some hs
        split at ht <;> cases ht
      next q4 =>
      split at hs
      case isFalse => cases hs
      next hlen =>
      split at hs
      case isFalse => cases hs
      next hcat =>
      cases hs
      dsimp only at *
      simp only [eB] at hE
      rw [if_neg q, if_neg (by omega)] at hE
      simp only [Bool.or_eq_true, Bool.and_eq_true, beq_iff_eq, decide_eq_true_eq] at hE
      rcases hE with hE | ⟨⟨⟨m1, m2⟩, m3⟩, m5⟩
      · omega
      · obtain ⟨f3, g3, g3'⟩ := List.any_eq_true.mp m3
        simp only [beq_iff_eq] at g3'
        have hi := K.2.2.2.2.2.2.2.2.2.1 f3 g3
        rw [g3'] at hi
        have := s_call (G := G) (p := p) (l := l) (e := e) (R := R) (s := s) (m := m) (args := args) (below := below) (meth := meth) (c := c) (Q := Q) (y := y) (pc := pc) (L := L) (as := st.take ax.2.1) (r := st.drop ax.2.1) (i := .invokestatic x) hcat (mk m1 (by rw [m5, hlen])) hM hf hl hg hz hc1 hc2 (Or.inl ⟨rfl, rfl, hi⟩) hd F k
        have e3 : st.take ax.2.1 ++ ((st.take ax.2.1).reverse.take ((st.take ax.2.1).reverse.length - (st.take ax.2.1).length)).reverse ++ st.drop ax.2.1 = st := by
          simp
        rw [e3] at this
        exact this
  all_goals exact (nocall_of hs rfl).elim
