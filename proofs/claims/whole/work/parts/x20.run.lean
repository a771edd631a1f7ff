/-! THE RUN: by the steps, the calls, the ends -/
theorem stepW (M : MNA) {G : GG} {p : Program} {l : Launch} {e : Env} {R : Room} {s : State} {m : MethodId} {args : Array Value} {below : List Frame} {meth : Method} {c : Code} {Q : State → Prop} {y pc cells slots cells2 slots2 : Nat} {L L2 : Lv} {st st2 : List AV} {S S2 : Sh} {h h2 : Mem} {rk len pc2 : Nat} {ax : Nat × Nat × Nat × Int} {i : Instr} (F : XFC G p s m args meth c y R) (K : LK) (hz : s.heap.size + cells = gz G + (S.length - 1)) (hc2 : cells2 = cells + (S2.length - S.length)) (hs2 : slots2 = slots + (slt S2 - slt S)) (hr1 : cells2 ≤ R.cells) (hr2 : slots2 ≤ R.slots) (hcls : (mdN y).1.cls = ownN (ownY.getD y 0))
    (hE : eB (ownY.getD y 0) ((mdN y).1.name == "<init>") (mdN y).2.2.1 pc i len ax = true) (hd : decode (mdN y).2.1 pc = .ok (i, len)) (hln : lnB i len = true)
    (hs : stepQ (gX G) rk i len ax pc L st S h = some (.inl (pc2, L2, st2, S2, h2))) (k : WC G p l e R s m args below meth c Q y pc2 L2 st2 S2 h2 cells2 slots2) : WC G p l e R s m args below meth c Q y pc L st S h cells slots := by
  cases i
  case ifCond cc o =>
    cases cc with
    | eq => exact q_if_eq F K hz hc2 hs2 hr1 hr2 hcls hE hd hln hs k
    | ne => exact q_if_ne F K hz hc2 hs2 hr1 hr2 hcls hE hd hln hs k
    | lt => exact q_if_lt F K hz hc2 hs2 hr1 hr2 hcls hE hd hln hs k
    | ge => exact q_if_ge F K hz hc2 hs2 hr1 hr2 hcls hE hd hln hs k
    | gt => exact q_if_gt F K hz hc2 hs2 hr1 hr2 hcls hE hd hln hs k
    | le => exact q_if_le F K hz hc2 hs2 hr1 hr2 hcls hE hd hln hs k
  case if_icmp cc o =>
    cases cc with
    | eq => exact q_icmp_eq F K hz hc2 hs2 hr1 hr2 hcls hE hd hln hs k
    | ne => exact q_icmp_ne F K hz hc2 hs2 hr1 hr2 hcls hE hd hln hs k
    | lt => exact q_icmp_lt F K hz hc2 hs2 hr1 hr2 hcls hE hd hln hs k
    | ge => exact q_icmp_ge F K hz hc2 hs2 hr1 hr2 hcls hE hd hln hs k
    | gt => exact q_icmp_gt F K hz hc2 hs2 hr1 hr2 hcls hE hd hln hs k
    | le => exact q_icmp_le F K hz hc2 hs2 hr1 hr2 hcls hE hd hln hs k
  case iconst => exact q_iconst F K hz hc2 hs2 hr1 hr2 hcls hE hd hln hs k
  case bipush => exact q_bipush F K hz hc2 hs2 hr1 hr2 hcls hE hd hln hs k
  case sipush => exact q_sipush F K hz hc2 hs2 hr1 hr2 hcls hE hd hln hs k
  case lconst => exact q_lconst F K hz hc2 hs2 hr1 hr2 hcls hE hd hln hs k
  case iload_n => exact q_iload_n F K hz hc2 hs2 hr1 hr2 hcls hE hd hln hs k
  case iload => exact q_iload F K hz hc2 hs2 hr1 hr2 hcls hE hd hln hs k
  case lload_n => exact q_lload_n F K hz hc2 hs2 hr1 hr2 hcls hE hd hln hs k
  case lload => exact q_lload F K hz hc2 hs2 hr1 hr2 hcls hE hd hln hs k
  case aload_n => exact q_aload_n F K hz hc2 hs2 hr1 hr2 hcls hE hd hln hs k
  case aload => exact q_aload F K hz hc2 hs2 hr1 hr2 hcls hE hd hln hs k
  case istore_n => exact q_istore_n F K hz hc2 hs2 hr1 hr2 hcls hE hd hln hs k
  case istore => exact q_istore F K hz hc2 hs2 hr1 hr2 hcls hE hd hln hs k
  case lstore_n => exact q_lstore_n F K hz hc2 hs2 hr1 hr2 hcls hE hd hln hs k
  case lstore => exact q_lstore F K hz hc2 hs2 hr1 hr2 hcls hE hd hln hs k
  case astore_n => exact q_astore_n F K hz hc2 hs2 hr1 hr2 hcls hE hd hln hs k
  case astore => exact q_astore F K hz hc2 hs2 hr1 hr2 hcls hE hd hln hs k
  case iinc => exact q_iinc F K hz hc2 hs2 hr1 hr2 hcls hE hd hln hs k
  case dup => exact q_dup F K hz hc2 hs2 hr1 hr2 hcls hE hd hln hs k
  case pop => exact q_pop F K hz hc2 hs2 hr1 hr2 hcls hE hd hln hs k
  case dup2 => exact q_dup2 F K hz hc2 hs2 hr1 hr2 hcls hE hd hln hs k
  case iadd => exact q_iadd F K hz hc2 hs2 hr1 hr2 hcls hE hd hln hs k
  case isub => exact q_isub F K hz hc2 hs2 hr1 hr2 hcls hE hd hln hs k
  case imul => exact q_imul F K hz hc2 hs2 hr1 hr2 hcls hE hd hln hs k
  case iand => exact q_iand F K hz hc2 hs2 hr1 hr2 hcls hE hd hln hs k
  case ior => exact q_ior F K hz hc2 hs2 hr1 hr2 hcls hE hd hln hs k
  case ishl => exact q_ishl F K hz hc2 hs2 hr1 hr2 hcls hE hd hln hs k
  case ishr => exact q_ishr F K hz hc2 hs2 hr1 hr2 hcls hE hd hln hs k
  case iushr => exact q_iushr F K hz hc2 hs2 hr1 hr2 hcls hE hd hln hs k
  case idiv => exact q_idiv F K hz hc2 hs2 hr1 hr2 hcls hE hd hln hs k
  case irem => exact q_irem F K hz hc2 hs2 hr1 hr2 hcls hE hd hln hs k
  case ldiv => exact q_ldiv F K hz hc2 hs2 hr1 hr2 hcls hE hd hln hs k
  case lrem => exact q_lrem F K hz hc2 hs2 hr1 hr2 hcls hE hd hln hs k
  case ladd => exact q_ladd F K hz hc2 hs2 hr1 hr2 hcls hE hd hln hs k
  case lsub => exact q_lsub F K hz hc2 hs2 hr1 hr2 hcls hE hd hln hs k
  case lmul => exact q_lmul F K hz hc2 hs2 hr1 hr2 hcls hE hd hln hs k
  case land => exact q_land F K hz hc2 hs2 hr1 hr2 hcls hE hd hln hs k
  case lor => exact q_lor F K hz hc2 hs2 hr1 hr2 hcls hE hd hln hs k
  case lcmp => exact q_lcmp F K hz hc2 hs2 hr1 hr2 hcls hE hd hln hs k
  case lshl => exact q_lshl F K hz hc2 hs2 hr1 hr2 hcls hE hd hln hs k
  case lshr => exact q_lshr F K hz hc2 hs2 hr1 hr2 hcls hE hd hln hs k
  case ineg => exact q_ineg F K hz hc2 hs2 hr1 hr2 hcls hE hd hln hs k
  case i2l => exact q_i2l F K hz hc2 hs2 hr1 hr2 hcls hE hd hln hs k
  case i2b => exact q_i2b F K hz hc2 hs2 hr1 hr2 hcls hE hd hln hs k
  case i2s => exact q_i2s F K hz hc2 hs2 hr1 hr2 hcls hE hd hln hs k
  case i2c => exact q_i2c F K hz hc2 hs2 hr1 hr2 hcls hE hd hln hs k
  case l2i => exact q_l2i F K hz hc2 hs2 hr1 hr2 hcls hE hd hln hs k
  case goto => exact q_goto F K hz hc2 hs2 hr1 hr2 hcls hE hd hln hs k
  case tableswitch => exact q_tableswitch F K hz hc2 hs2 hr1 hr2 hcls hE hd hln hs k
  case lookupswitch => exact q_lookupswitch F K hz hc2 hs2 hr1 hr2 hcls hE hd hln hs k
  case ldc => exact q_ldc F K hz hc2 hs2 hr1 hr2 hcls hE hd hln hs k
  case ldc_w => exact q_ldc_w F K hz hc2 hs2 hr1 hr2 hcls hE hd hln hs k
  case ldc2_w => exact q_ldc2_w F K hz hc2 hs2 hr1 hr2 hcls hE hd hln hs k
  case getfield => exact q_getfield F K hz hc2 hs2 hr1 hr2 hcls hE hd hln hs k
  case putfield => exact q_putfield F K hz hc2 hs2 hr1 hr2 hcls hE hd hln hs k
  case getstatic => exact q_getstatic F K hz hc2 hs2 hr1 hr2 hcls hE hd hln hs k
  case iaload => exact q_iaload F K hz hc2 hs2 hr1 hr2 hcls hE hd hln hs k
  case laload => exact q_laload F K hz hc2 hs2 hr1 hr2 hcls hE hd hln hs k
  case saload => exact q_saload F K hz hc2 hs2 hr1 hr2 hcls hE hd hln hs k
  case baload => exact q_baload F K hz hc2 hs2 hr1 hr2 hcls hE hd hln hs k
  case aaload => exact q_aaload F K hz hc2 hs2 hr1 hr2 hcls hE hd hln hs k
  case iastore => exact q_iastore F K hz hc2 hs2 hr1 hr2 hcls hE hd hln hs k
  case bastore => exact q_bastore F K hz hc2 hs2 hr1 hr2 hcls hE hd hln hs k
  case sastore => exact q_sastore F K hz hc2 hs2 hr1 hr2 hcls hE hd hln hs k
  case lastore => exact q_lastore F K hz hc2 hs2 hr1 hr2 hcls hE hd hln hs k
  case aastore => exact q_aastore F K hz hc2 hs2 hr1 hr2 hcls hE hd hln hs k
  case arraylength => exact q_arraylength F K hz hc2 hs2 hr1 hr2 hcls hE hd hln hs k
  case new => exact q_new F K hz hc2 hs2 hr1 hr2 hcls hE hd hln hs k
  case newarray => exact q_newarray F K hz hc2 hs2 hr1 hr2 hcls hE hd hln hs k
  case anewarray => exact q_anewarray F K hz hc2 hs2 hr1 hr2 hcls hE hd hln hs k
  case invokespecial => exact q_invokespecial F K hz hc2 hs2 hr1 hr2 hcls hE hd hln hs k
  case invokestatic => exact q_invokestatic F K hz hc2 hs2 hr1 hr2 hcls hE hd hln hs k
  case invokevirtual => exact q_invokevirtual F K hz hc2 hs2 hr1 hr2 hcls hE hd hln hs k
  case multianewarray => exact q_multianewarray M F K hz hc2 hs2 hr1 hr2 hcls hE hd hln hs k
  case ireturn => exact q_ireturn F K hz hc2 hs2 hr1 hr2 hcls hE hd hln hs k
  case lreturn => exact q_lreturn F K hz hc2 hs2 hr1 hr2 hcls hE hd hln hs k
  case return_ => exact q_return_ F K hz hc2 hs2 hr1 hr2 hcls hE hd hln hs k
  all_goals (unfold stepQ stepK at hs; cases hs)
theorem stepK_grow (X : Xs) (rk : Nat) (i : Instr) (len : Nat) (ax : Nat × Nat × Nat × Int) (pc : Nat) (ls : Lv) (st : List AV) (S : Sh) (h : Mem) :
    stepK X rk i len ax pc ls st S h True (fun _ _ _ S2 _ => S.length ≤ S2.length ∧ slt S ≤ slt S2) (fun _ _ _ _ _ S2 _ => S2 = S) (fun _ S2 _ => S2 = S) := by
  have rf : S.length ≤ S.length ∧ slt S ≤ slt S := ⟨Nat.le_refl _, Nat.le_refl _⟩
  have ap : ∀ T : Sh, S.length ≤ (S ++ T).length ∧ slt S ≤ slt (S ++ T) := fun T => ⟨by rw [List.length_append]; omega, by rw [slt_app]; omega⟩
  cases i
  case ifCond c o => cases c <;> (simp only [stepK, pI]; split <;> (try split) <;> first | trivial | exact rf)
  case if_icmp c o => cases c <;> (simp only [stepK, pII]; split <;> (try split) <;> first | trivial | exact rf)
  case ireturn =>
    simp only [stepK, pI]
    repeat' (first | trivial | split)
  case lreturn =>
    simp only [stepK, pJ]
    repeat' (first | trivial | split)
  case return_ =>
    simp only [stepK]
    repeat' (first | trivial | split)
  case tableswitch d lo hi offs =>
    simp only [stepK, pI]
    split
    · split
      · generalize offs.toList = l
        generalize lo = z
        induction l generalizing z with
        | nil => exact rf
        | cons a l ih => unfold tsw; split; exact rf; exact ih _
      · trivial
    · trivial
  case lookupswitch d ps =>
    simp only [stepK, pI]
    split
    · generalize ps.toList = l
      induction l with
      | nil => exact rf
      | cons a l ih => unfold lsw; split; exact rf; exact ih
    · trivial
  all_goals first
    | trivial
    | exact rf
    | exact ap _
    | (simp only [stepK, pI, pII, pJ, pJJ, pJI, pA, pAI, pAII, pAIJ, pAIA, pVA, pV, pVV, pCP, oK]; repeat' (first | trivial | exact rf | exact ap _ | split))
theorem exec_grow (X : Xs) : ∀ (n d y pc : Nat) (ls : Lv) (st : List AV) (S : Sh) (h : Mem) (r : Res), exec X n d y pc ls st S h = some r → S.length ≤ r.2.1.length ∧ slt S ≤ slt r.2.1 := by
  intro n
  induction n with
  | zero => intro d y pc ls st S h r e; simp [exec] at e
  | succ n ih =>
    intro d y pc ls st S h r e
    rw [exec] at e
    unfold stepO at e
    cases hf : ftch pc (tabOf y) with
    | none => rw [hf] at e; cases e
    | some q =>
      rw [hf] at e
      have hk := stepK_grow X (rkOf y) q.1.1 q.1.2 q.2 pc ls st S h
      rw [stepK_run] at hk
      dsimp only at e
      generalize stepQ X (rkOf y) q.1.1 q.1.2 q.2 pc ls st S h = z at e hk
      cases z with
      | none => cases e
      | some a =>
        cases a with
        | inl c =>
          have := ih _ _ _ _ _ _ _ _ e
          have hk : S.length ≤ c.2.2.2.1.length ∧ slt S ≤ slt c.2.2.2.1 := hk
          exact ⟨Nat.le_trans hk.1 this.1, Nat.le_trans hk.2 this.2⟩
        | inr a =>
          cases a with
          | inr c =>
            cases e
            have hk : r.2.1 = S := hk
            rw [hk]
            exact ⟨Nat.le_refl _, Nat.le_refl _⟩
          | inl c =>
            have hk : c.2.2.2.2.2.1 = S := hk
            cases d with
            | zero => cases e
            | succ d =>
              dsimp only at e
              cases hg : gd c.1 c.2.1 with
              | false => rw [hg] at e; cases e
              | true =>
                rw [hg] at e
                dsimp only [cond] at e
                split at e
                · cases e
                · next q hq =>
                  have h1 := ih _ _ _ _ _ _ _ _ hq
                  have h2 := ih _ _ _ _ _ _ _ _ e
                  rw [hk] at h1
                  exact ⟨Nat.le_trans h1.1 h2.1, Nat.le_trans h1.2 h2.2⟩
