/-! THE CONTRACT OF A METHOD OUT OF ITS RUN -/
theorem stepK_call (X : Xs) (rk : Nat) (i : Instr) (len : Nat) (ax : Nat × Nat × Nat × Int) (pc : Nat) (ls : Lv) (st : List AV) (S : Sh) (h : Mem) :
    stepK X rk i len ax pc ls st S h True (fun _ _ _ _ _ => True) (fun _ _ _ _ _ S2 h2 => S2 = S ∧ h2 = h) (fun _ _ _ => True) := by
  cases i
  case ifCond c o => cases c <;> (simp only [stepK, pI, ite_self]; split <;> trivial)
  case if_icmp c o => cases c <;> (simp only [stepK, pII, ite_self]; split <;> trivial)
  case tableswitch d lo hi offs =>
    simp only [stepK, pI]
    split
    · split
      · generalize offs.toList = l
        generalize lo = z
        induction l generalizing z with
        | nil => trivial
        | cons a l ih => unfold tsw; split; trivial; exact ih _
      · trivial
    · trivial
  case lookupswitch d ps =>
    simp only [stepK, pI]
    split
    · generalize ps.toList = l
      induction l with
      | nil => trivial
      | cons a l ih => unfold lsw; split; trivial; exact ih
    · trivial
  all_goals first
    | trivial
    | (simp only [stepK, pI, pII, pJ, pJJ, pJI, pA, pAI, pAII, pAIJ, pAIA, pVA, pV, pVV, pCP, oK, ite_self]; repeat' (first | trivial | exact ⟨rfl, rfl⟩ | split))
def SimAt (G : GG) (l : Launch) (n : Nat) : Prop := ∀ (d y pc : Nat) (L : Lv) (st : List AV) (S : Sh) (h : Mem) (r : Res), exec (gX G) n d y pc L st S h = some r → y < 347 → 0 < S.length → ∀ (p : Program) (e : Env) (s : State) (m : MethodId) (args : Array Value) (below : List Frame) (meth : Method) (c : Code) (R : Room) (cells slots mc ms : Nat), XFC G p s m args meth c y R → d + 1 ≤ R.frames → (d + 1) * 64 ≤ R.locals → mc ≤ R.cells → ms ≤ R.slots → meth.sig.returnType = (mdN y).2.2.2 → meth.locks = false → s.heap.size + cells = gz G + (S.length - 1) → cells + (r.2.1.length - S.length) = mc → slots + (slt r.2.1 - slt S) = ms → WC G p l e R s m args below meth c (MQ below (CQ G r) args s mc ms (gA G)) y pc L st S h cells slots
theorem lg_len {G : GG} {S : Sh} (hG : ∀ r : Int, -10 ≤ r → r ≤ -2 → (gR G r).category = 1) : ∀ (vs : List AV), (∀ v ∈ vs, okV S v) → (lg_sl (vs.map (cv G))).length = (entL vs).length ∧ ∀ (b i : Nat) (v : AV), (entL vs)[i]? = some (some v) → (b + i, cv G v) ∈ lv_args b (vs.map (cv G))
  | [], _ => ⟨rfl, fun b i v h => by simp [entL] at h⟩
  | v :: vs, hv => by
    obtain ⟨h1, h2⟩ := List.forall_mem_cons.mp hv
    obtain ⟨i1, i2⟩ := lg_len hG vs h2
    rcases (show cat v = 1 ∨ cat v = 2 by unfold cat; split <;> omega) with z | z
    · have e : (cv G v).category = 1 := cat_cv1 hG h1 z
      have e2 : entL (v :: vs) = some v :: entL vs := by
        match v, z with
        | .inl x, _ => rfl
        | .inr (.inr x), _ => rfl
        | .inr (.inl x), z => cases z
      refine ⟨?_, fun b i w h => ?_⟩
      · rw [e2]
        simp only [List.map_cons, lg_sl, List.flatMap_cons, e]
        simp only [List.length_append, List.length_cons]
        have : (List.flatMap (fun v => if v.category = 2 then [Slot.val v, Slot.second] else [Slot.val v]) (vs.map (cv G))).length = (entL vs).length := i1
        rw [this]
        simp
        omega
      · rw [e2] at h
        rw [List.map_cons]
        unfold lv_args
        rw [if_neg (by omega)]
        cases i with
        | zero => cases h; exact List.mem_cons_self
        | succ i =>
          rw [List.getElem?_cons_succ] at h
          have := i2 (b + 1) i w h
          rw [show b + (i + 1) = b + 1 + i by omega]
          exact List.mem_cons_of_mem _ this
    · match v, z with
      | .inr (.inl x), _ =>
        have e2 : entL (.inr (.inl x) :: vs) = some (.inr (.inl x)) :: none :: entL vs := rfl
        have e : (cv G (.inr (.inl x))).category = 2 := rfl
        refine ⟨?_, fun b i w h => ?_⟩
        · rw [e2]
          simp only [List.map_cons, lg_sl, List.flatMap_cons, e]
          simp only [List.length_append, List.length_cons]
          have : (List.flatMap (fun v => if v.category = 2 then [Slot.val v, Slot.second] else [Slot.val v]) (vs.map (cv G))).length = (entL vs).length := i1
          rw [this]
          simp
          omega
        · rw [e2] at h
          rw [List.map_cons]
          unfold lv_args
          rw [if_pos e]
          match i, h with
          | 0, h => cases h; exact List.mem_cons_self
          | 1, h => cases h
          | i + 2, h =>
            have := i2 (b + 2) i w h
            rw [show b + (i + 2) = b + 2 + i by omega]
            exact List.mem_cons_of_mem _ this
theorem entL_ok {S : Sh} : ∀ (vs : List AV), (∀ v ∈ vs, okV S v) → ∀ v, some v ∈ entL vs → okV S v
  | [], _, v, h => by cases h
  | .inl x :: vs, hv, v, h => by
    obtain ⟨h1, h2⟩ := List.forall_mem_cons.mp hv
    rcases List.mem_cons.mp h with e | e
    · cases e; exact h1
    · exact entL_ok vs h2 v e
  | .inr (.inr x) :: vs, hv, v, h => by
    obtain ⟨h1, h2⟩ := List.forall_mem_cons.mp hv
    rcases List.mem_cons.mp h with e | e
    · cases e; exact h1
    · exact entL_ok vs h2 v e
  | .inr (.inl x) :: vs, hv, v, h => by
    obtain ⟨h1, h2⟩ := List.forall_mem_cons.mp hv
    rcases List.mem_cons.mp h with e | e
    · cases e; exact h1
    · rcases List.mem_cons.mp e with e | e
      · cases e
      · exact entL_ok vs h2 v e
theorem LR_entry {G : GG} {S : Sh} {y : Nat} {vs : List AV} (hG : ∀ r : Int, -10 ≤ r → r ≤ -2 → (gR G r).category = 1) (hv : ∀ v ∈ vs, okV S v) (hl : (entL vs).length ≤ (mdN y).2.2.1) (hml : (mdN y).2.2.1 = mlOf y) :
    LR G S (mdN y).2.2.1 ((lg_sl (vs.map (cv G)) ++ List.replicate ((mdN y).2.2.1 - (lg_sl (vs.map (cv G))).length) Slot.unset).toArray) (entF y vs) := by
  obtain ⟨h1, h2⟩ := lg_len hG vs hv
  refine ⟨?_, lv_mono (lv_entry (vs.map (cv G)) (by rw [h1]; exact hl)) ?_, ?_⟩
  · unfold entF
    rw [List.length_append, List.length_replicate, ← hml]
    omega
  · rintro ⟨i, w⟩ hq
    obtain ⟨v, g1, rfl⟩ := asl_mem.mp hq
    unfold entF at g1
    by_cases hi : i < (entL vs).length
    · rw [List.getElem?_append_left hi] at g1
      have := h2 0 i v g1
      rwa [Nat.zero_add] at this
    · rw [List.getElem?_append_right (by omega), List.getElem?_replicate] at g1
      split at g1 <;> cases g1
  · intro v hv2
    unfold entF at hv2
    rcases List.mem_append.mp hv2 with z | z
    · exact entL_ok vs hv v z
    · have := (List.mem_replicate.mp z).2
      cases this
theorem kl_get : ∀ (m : List Bool) (l : Lv) (i : Nat) (v : AV), (kl m l)[i]? = some (some v) → l[i]? = some (some v)
  | [], l, i, v, h => h
  | b :: m, [], i, v, h => h
  | b :: m, w :: l, 0, v, h => by
    cases b with
    | true => exact h
    | false => cases h
  | b :: m, w :: l, i + 1, v, h => kl_get m l i v h
theorem kl_len : ∀ (m : List Bool) (l : Lv), (kl m l).length = l.length
  | [], l => rfl
  | b :: m, [] => rfl
  | b :: m, w :: l => congrArg (· + 1) (kl_len m l)
theorem LR_kil {G : GG} {S : Sh} {nL y pc : Nat} {ls : Array Slot} {L : Lv} (h : LR G S nL ls L) : LR G S nL ls (kil y pc L) := by
  unfold kil
  refine ⟨by rw [kl_len]; exact h.1, lv_mono h.2.1 ?_, ?_⟩
  · rintro ⟨i, w⟩ hq
    obtain ⟨v, g1, rfl⟩ := asl_mem.mp hq
    exact asl_mem.mpr ⟨v, kl_get _ _ _ _ g1, rfl⟩
  · intro v hv
    obtain ⟨j, hj⟩ := List.getElem?_of_mem hv
    exact h.2.2 v (List.mem_of_getElem? (kl_get _ _ _ _ hj))
theorem WC_kil {G : GG} {p : Program} {l : Launch} {e : Env} {R : Room} {s : State} {m : MethodId} {args : Array Value} {below : List Frame} {meth : Method} {c : Code} {Q : State → Prop} {y pc cells slots : Nat} {L : Lv} {st : List AV} {S : Sh} {h : Mem} (k : WC G p l e R s m args below meth c Q y pc (kil y pc L) st S h cells slots) : WC G p l e R s m args below meth c Q y pc L st S h cells slots :=
  fun ls H locs ⟨hR, hS, hL, hV⟩ => k ls H locs ⟨hR, hS, LR_kil hL, hV⟩
theorem CT_of {G : GG} {l : Launch} {n d y : Nat} {vs : List AV} {S : Sh} {h : Mem} {r : Res} (CH : ∀ y, y < 347 → chkM y = true) (IH : SimAt G l n) (he : exec (gX G) n d y 0 (entF y vs) [] S h = some r) (hy : y < 347) (hS0 : 0 < S.length) (hg : gd y vs = true) : CT G l d y vs S h r := by
  obtain ⟨c1, c2, c3, c4, c5, c6, c7, c8⟩ := chk_mb (CH y hy)
  have hl : (entL vs).length ≤ (mdN y).2.2.1 := by
    unfold gd at hg
    simp only [Bool.and_eq_true] at hg
    rw [c4]
    exact Nat.le_of_ble_eq_true hg.2
  refine Met.ofW (cc := (mdN y).2.1) (maxL := (mdN y).2.2.1) (ret := (mdN y).2.2.2) c1 rfl ?_
  intro p e s m args below meth c s₁ B hml hv
  obtain ⟨rfl, hC, hR, hsz, hvs⟩ := hv
  have hts0 := atoms_spec (ws := wsY y) B.pre
  have hts : ∀ w ∈ TG, w.before (vs.map (cv G)).toArray s = true := fun w hw => hts0 w (List.mem_cons_of_mem _ hw)
  have hown : s.vm.findClass (mdN y).1.cls = some m.cls := findClass_of_methodNamed B.named
  have F : XFC G p s m (vs.map (cv G)).toArray meth c y (rmD d (r.2.1.length - S.length) (slt r.2.1 - slt S)) := ⟨B.exec, B.bytes, hml, hown, hts, hC, fun z => by rw [(name_of_methodNamed B.named B.method).1, z], by show 1 ≤ d + 1; omega, by show 64 ≤ (d + 1) * 64; omega⟩
  have k := IH d y 0 (entF y vs) [] S h r he hy hS0 p e s m (vs.map (cv G)).toArray below meth c _ 0 0 _ _ F (Nat.le_refl _) (Nat.le_refl _) (Nat.le_refl _) (Nat.le_refl _) B.returns B.notSynchronized (by rw [hsz]; omega) (Nat.zero_add _) (Nat.zero_add _)
  rw [lg_entry_eq]
  exact k _ s.heap [] ⟨hR, va_S.rf, LR_entry (CX_ro hC) hvs hl c4, fun v hv => by cases hv⟩
theorem simW (M : MNA) {G : GG} {l : Launch} (K : LK) (CH : ∀ y, y < 347 → chkM y = true) : ∀ n, SimAt G l n := by
  intro n
  induction n with
  | zero => intro d y pc L st S h r he; simp [exec] at he
  | succ n IH =>
    intro d y pc L st S h r he hy hS0 p e s m args below meth c R cells slots mc ms F hR1 hR2 hR3 hR4 hrt hlk hz hmc hms
    obtain ⟨c1, c2, c3, c4, c5, c6, c7, c8⟩ := chk_mb (CH y hy)
    rw [exec] at he
    unfold stepO at he
    cases hf : ftch pc (tabOf y) with
    | none => rw [hf] at he; cases he
    | some q =>
      rw [hf] at he
      obtain ⟨d1, d2, d3⟩ := c8 _ (ftch_mem hf)
      dsimp only at he d1 d2 d3
      have hgr := stepK_grow (gX G) (rkOf y) q.1.1 q.1.2 q.2 pc L st S h
      have hcl := stepK_call (gX G) (rkOf y) q.1.1 q.1.2 q.2 pc L st S h
      rw [stepK_run] at hgr hcl
      cases hs : stepQ (gX G) (rkOf y) q.1.1 q.1.2 q.2 pc L st S h with
      | none => rw [hs] at he; cases he
      | some a =>
        rw [hs] at he hgr hcl
        cases a with
        | inl cf =>
          obtain ⟨pc2, L2, st2, S2, h2⟩ := cf
          dsimp only at he
          have hgr : S.length ≤ S2.length ∧ slt S ≤ slt S2 := hgr
          have hg2 := exec_grow (gX G) _ _ _ _ _ _ _ _ _ he
          have k := IH d y pc2 (kil y pc2 L2) st2 S2 h2 r he hy (by omega) p e s m args below meth c R (cells + (S2.length - S.length)) (slots + (slt S2 - slt S)) mc ms F hR1 hR2 hR3 hR4 hrt hlk (by omega) (by omega) (by omega)
          exact stepW M F K hz rfl rfl (by omega) (by omega) c2 d3 d1 d2 hs (WC_kil k)
        | inr a =>
          cases a with
          | inr r2 =>
            cases he
            have hgr : r.2.1 = S := hgr
            rw [hgr] at hmc hms
            simp only [Nat.sub_self, Nat.add_zero] at hmc hms
            subst hmc; subst hms
            exact retW F hrt c3 hlk d1 d2 hs
          | inl cl =>
            have hcl : cl.2.2.2.2.2.1 = S ∧ cl.2.2.2.2.2.2 = h := hcl
            cases d with
            | zero => cases he
            | succ d =>
              dsimp only at he
              rw [hcl.1, hcl.2] at he
              cases hg : gd cl.1 cl.2.1 with
              | false => rw [hg] at he; cases he
              | true =>
                rw [hg] at he
                dsimp only [cond] at he
                cases hc : exec (gX G) n d cl.1 0 (entF cl.1 cl.2.1) [] S h with
                | none => rw [hc] at he; cases he
                | some q2 =>
                  rw [hc] at he
                  dsimp only at he
                  have hy2 : cl.1 < 347 := by
                    have := hg
                    unfold gd at this
                    simp only [Bool.and_eq_true] at this
                    exact Nat.le_of_ble_eq_true this.1
                  have g1 := exec_grow (gX G) _ _ _ _ _ _ _ _ _ hc
                  have g2 := exec_grow (gX G) _ _ _ _ _ _ _ _ _ he
                  have hM := CT_of CH IH hc hy2 hS0 hg
                  have k := IH (d + 1) y _ _ _ q2.2.1 q2.2.2 r he hy (by omega) p e s m args below meth c R (cells + (q2.2.1.length - S.length)) (slots + (slt q2.2.1 - slt S)) mc ms F hR1 hR2 hR3 hR4 hrt hlk (by omega) (by omega) (by omega)
                  exact callW F K CH hz c2 d3 d1 d2 hs hg hM (by omega) (by omega) g1.1 (by omega) (by omega) (WC_kil k)
