/-! stepK goes along with every function of its answers; the equation of EX by stepK; answers as whole numbers -/
section NAT
variable {α β : Type} (F : β → α)
theorem pI_nat (st : List AV) (x : β) (f : Int → List AV → β) : F (pI st x f) = pI st (F x) fun a r => F (f a r) := by unfold pI; split <;> rfl
theorem pII_nat (st : List AV) (x : β) (f : Int → Int → List AV → β) : F (pII st x f) = pII st (F x) fun a b r => F (f a b r) := by unfold pII; split <;> rfl
theorem pJ_nat (st : List AV) (x : β) (f : Int → List AV → β) : F (pJ st x f) = pJ st (F x) fun a r => F (f a r) := by unfold pJ; split <;> rfl
theorem pJJ_nat (st : List AV) (x : β) (f : Int → Int → List AV → β) : F (pJJ st x f) = pJJ st (F x) fun a b r => F (f a b r) := by unfold pJJ; split <;> rfl
theorem pJI_nat (st : List AV) (x : β) (f : Int → Int → List AV → β) : F (pJI st x f) = pJI st (F x) fun a b r => F (f a b r) := by unfold pJI; split <;> rfl
theorem pA_nat (st : List AV) (x : β) (f : Int → List AV → β) : F (pA st x f) = pA st (F x) fun a r => F (f a r) := by unfold pA; split <;> rfl
theorem pAI_nat (st : List AV) (x : β) (f : Int → Int → List AV → β) : F (pAI st x f) = pAI st (F x) fun a b r => F (f a b r) := by unfold pAI; split <;> rfl
theorem pAII_nat (st : List AV) (x : β) (f : Int → Int → Int → List AV → β) : F (pAII st x f) = pAII st (F x) fun a b c r => F (f a b c r) := by unfold pAII; split <;> rfl
theorem pAIJ_nat (st : List AV) (x : β) (f : Int → Int → Int → List AV → β) : F (pAIJ st x f) = pAIJ st (F x) fun a b c r => F (f a b c r) := by unfold pAIJ; split <;> rfl
theorem pAIA_nat (st : List AV) (x : β) (f : Int → Int → Int → List AV → β) : F (pAIA st x f) = pAIA st (F x) fun a b c r => F (f a b c r) := by unfold pAIA; split <;> rfl
theorem pVA_nat (st : List AV) (x : β) (f : AV → Int → List AV → β) : F (pVA st x f) = pVA st (F x) fun a b r => F (f a b r) := by unfold pVA; split <;> rfl
theorem pV_nat (st : List AV) (x : β) (f : AV → List AV → β) : F (pV st x f) = pV st (F x) fun a r => F (f a r) := by unfold pV; split <;> rfl
theorem pVV_nat (st : List AV) (x : β) (f : AV → AV → List AV → β) : F (pVV st x f) = pVV st (F x) fun a b r => F (f a b r) := by unfold pVV; split <;> rfl
theorem pCP_nat (st : List AV) (x : β) (f : Int → Int → Int → Int → Int → List AV → β) : F (pCP st x f) = pCP st (F x) fun a b c d e r => F (f a b c d e r) := by unfold pCP; split <;> rfl
theorem oK_nat {γ : Type} (o : Option γ) (x : β) (f : γ → β) : F (oK o x f) = oK o (F x) fun a => F (f a) := by unfold oK; split <;> rfl
theorem tsw_nat (a : Int) (f : Int → β) (d : β) : ∀ (lo : Int) (l : List Int), F (tsw a f d lo l) = tsw a (fun o => F (f o)) (F d) lo l
  | _, [] => rfl
  | lo, o :: l => by
    unfold tsw
    split
    · rfl
    · exact tsw_nat a f d (lo + 1) l
theorem lsw_nat (a : Int) (f : Int → β) (d : β) : ∀ (l : List (Int × Int)), F (lsw a f d l) = lsw a (fun o => F (f o)) (F d) l
  | [] => rfl
  | q :: l => by
    unfold lsw
    split
    · rfl
    · exact lsw_nat a f d l
end NAT
def runA {α : Type} (fail : α) (k : Nat → Lv → List AV → Sh → Mem → α) (call : Nat → List AV → Nat → Lv → List AV → Sh → Mem → α) (ret : Option AV → Sh → Mem → α) : Option (Cfg ⊕ Cll ⊕ Res) → α
  | none => fail
  | some (.inl c) => k c.1 c.2.1 c.2.2.1 c.2.2.2.1 c.2.2.2.2
  | some (.inr (.inl c)) => call c.1 c.2.1 c.2.2.1 c.2.2.2.1 c.2.2.2.2.1 c.2.2.2.2.2.1 c.2.2.2.2.2.2
  | some (.inr (.inr r)) => ret r.1 r.2.1 r.2.2
theorem stepK_run {α : Type} (X : Xs) (rk : Nat) (i : Instr) (len : Nat) (ax : Nat × Nat × Nat × Int) (pc : Nat) (ls : Lv) (st : List AV) (S : Sh) (h : Mem) (fail : α)
    (k : Nat → Lv → List AV → Sh → Mem → α) (call : Nat → List AV → Nat → Lv → List AV → Sh → Mem → α) (ret : Option AV → Sh → Mem → α) :
    stepK X rk i len ax pc ls st S h fail k call ret = runA fail k call ret (stepQ X rk i len ax pc ls st S h) := by
  unfold stepQ
  cases i
  case ifCond c o => cases c <;> (simp only [stepK, pI_nat (runA fail k call ret), apply_ite (runA fail k call ret)]; rfl)
  case if_icmp c o => cases c <;> (simp only [stepK, pII_nat (runA fail k call ret), apply_ite (runA fail k call ret)]; rfl)
  case ireturn =>
    simp only [stepK, pI_nat (runA fail k call ret)]
    congr 1
    funext a r
    cases r <;> (try simp only [apply_ite (runA fail k call ret)]) <;> rfl
  case lreturn =>
    simp only [stepK, pJ_nat (runA fail k call ret)]
    congr 1
    funext a r
    cases r <;> (try simp only [apply_ite (runA fail k call ret)]) <;> rfl
  case return_ => 
    cases st <;> (try simp only [stepK, apply_ite (runA fail k call ret)]) <;> rfl
  all_goals first
    | rfl
    | (simp only [stepK, pI_nat (runA fail k call ret), pII_nat (runA fail k call ret), pJ_nat (runA fail k call ret), pJJ_nat (runA fail k call ret), pJI_nat (runA fail k call ret), pA_nat (runA fail k call ret), pAI_nat (runA fail k call ret), pAII_nat (runA fail k call ret), pAIJ_nat (runA fail k call ret), pAIA_nat (runA fail k call ret), pVA_nat (runA fail k call ret), pV_nat (runA fail k call ret), pVV_nat (runA fail k call ret), pCP_nat (runA fail k call ret), oK_nat (runA fail k call ret), tsw_nat (runA fail k call ret), lsw_nat (runA fail k call ret), apply_ite (runA fail k call ret)]; rfl)
abbrev Rs : Type := Int × Sh × Mem
def resN (r : Res) : Rs := (match r.1 with
  | some (.inl x) => x
  | some (.inr (.inl x)) => x
  | some (.inr (.inr x)) => x
  | none => 0, r.2)
def pushR (rk : Nat) (x : Int) (st : List AV) : List AV := match rk with
  | 0 => st
  | 2 => .inr (.inl x) :: st
  | _ => .inl x :: st
def okRk (rk : Nat) (v : Option AV) : Prop := match v with
  | none => rk = 0
  | some (.inl _) => rk ≠ 0 ∧ rk ≠ 2
  | some (.inr (.inl _)) => rk = 2
  | some (.inr (.inr _)) => False
theorem okRk_push {rk : Nat} {r : Res} {st : List AV} (h : okRk rk r.1) : r.1.toList ++ st = pushR rk (resN r).1 st := by
  obtain ⟨v, S, m⟩ := r
  unfold okRk at h
  dsimp only at h
  split at h
  · subst h; rfl
  · next x => 
    obtain ⟨h1, h2⟩ := h
    unfold pushR
    split
    · exact absurd rfl h1
    · exact absurd rfl h2
    · rfl
  · subst h; rfl
  · exact h.elim
theorem stepK_kind (X : Xs) (rk : Nat) (i : Instr) (len : Nat) (ax : Nat × Nat × Nat × Int) (pc : Nat) (ls : Lv) (st : List AV) (S : Sh) (h : Mem) :
    stepK X rk i len ax pc ls st S h True (fun _ _ _ _ _ => True) (fun _ _ _ _ _ _ _ => True) (fun v _ _ => okRk rk v) := by
  cases i
  case ifCond c o => cases c <;> (simp only [stepK, pI, ite_self]; split <;> trivial)
  case if_icmp c o => cases c <;> (simp only [stepK, pII, ite_self]; split <;> trivial)
  case ireturn =>
    simp only [stepK, pI]
    split
    · split
      · split
        · next h => exact ⟨by omega, by omega⟩
        · split
          · split
            · exact ⟨by omega, by omega⟩
            · trivial
          · split
            · split
              · exact ⟨by omega, by omega⟩
              · trivial
            · trivial
      · trivial
    · trivial
  case lreturn =>
    simp only [stepK, pJ]
    split
    · split
      · split
        · assumption
        · trivial
      · trivial
    · trivial
  case return_ =>
    simp only [stepK]
    split
    · split
      · assumption
      · trivial
    · trivial
  case tableswitch d lo hi offs =>
    simp only [stepK, pI]
    split
    · split
      · generalize offs.toList = l
        generalize lo = z
        induction l generalizing z with
        | nil => trivial
        | cons a l ih => unfold tsw; split; trivial; exact ih _
      · trivial
    · trivial
  case lookupswitch d ps =>
    simp only [stepK, pI]
    split
    · generalize ps.toList = l
      induction l with
      | nil => trivial
      | cons a l ih => unfold lsw; split; trivial; exact ih
    · trivial
  all_goals first
    | trivial
    | (simp only [stepK, pI, pII, pJ, pJJ, pJI, pA, pAI, pAII, pAIJ, pAIA, pVA, pV, pVV, pCP, oK, ite_self]; repeat' (first | trivial | split))
theorem exec_kind (X : Xs) : ∀ (n d y pc : Nat) (ls : Lv) (st : List AV) (S : Sh) (h : Mem) (r : Res), exec X n d y pc ls st S h = some r → okRk (rkOf y) r.1 := by
  intro n
  induction n with
  | zero => intro d y pc ls st S h r e; simp [exec] at e
  | succ n ih =>
    intro d y pc ls st S h r e
    rw [exec] at e
    unfold stepO at e
    cases hf : ftch pc (tabOf y) with
    | none => rw [hf] at e; cases e
    | some q =>
      rw [hf] at e
      have hk := stepK_kind X (rkOf y) q.1.1 q.1.2 q.2 pc ls st S h
      rw [stepK_run] at hk
      dsimp only at e
      generalize stepQ X (rkOf y) q.1.1 q.1.2 q.2 pc ls st S h = z at e hk
      cases z with
      | none => cases e
      | some a =>
        cases a with
        | inl c => exact ih _ _ _ _ _ _ _ _ e
        | inr a =>
          cases a with
          | inr c => cases e; exact hk
          | inl c =>
            cases d with
            | zero => cases e
            | succ d =>
              dsimp only at e
              split at e
              · cases e
              · exact ih _ _ _ _ _ _ _ _ e
noncomputable def EI (X : Xs) (d y pc : Nat) (ls : Lv) (st : List AV) (S : Sh) (h : Mem) : Option Rs := (EX X d y pc ls st S h).map resN
noncomputable def MI (X : Xs) (d y : Nat) (vs : List AV) (S : Sh) (h : Mem) : Option Rs := bif gd y vs then EI X d y 0 (entF y vs) [] S h else none
noncomputable def retI (v : Option AV) (S : Sh) (h : Mem) : Option Rs := some (resN (v, S, h))
noncomputable def callI' (X : Xs) (d : Nat) (k : Nat → Lv → List AV → Sh → Mem → Option Rs) : Nat → List AV → Nat → Lv → List AV → Sh → Mem → Option Rs := fun y' vs pc ls st S h => match d with
  | 0 => none
  | d' + 1 => oK (MI X d' y' vs S h) none fun r => k pc ls (pushR (rkOf y') r.1 st) r.2.1 r.2.2
theorem EI_step (X : Xs) (d y pc : Nat) (ls : Lv) (st : List AV) (S : Sh) (h : Mem) : EI X d y pc ls st S h = match ftch pc (tabOf y) with
    | none => none
    | some e => stepK X (rkOf y) e.1.1 e.1.2 e.2 pc ls st S h none (fun pc ls => EI X d y pc (kil y pc ls)) (callI' X d (fun pc ls => EI X d y pc (kil y pc ls))) retI := by
  unfold EI
  rw [EX_step]
  unfold stepO
  cases hf : ftch pc (tabOf y) with
  | none => rfl
  | some q =>
    dsimp only
    rw [stepK_run X _ _ _ _ _ _ _ _ _ none (fun pc ls st S h => (EX X d y pc (kil y pc ls) st S h).map resN)]
    generalize stepQ X (rkOf y) q.1.1 q.1.2 q.2 pc ls st S h = z
    cases z with
    | none => rfl
    | some a =>
      cases a with
      | inl c => rfl
      | inr a =>
        cases a with
        | inr c => rfl
        | inl c =>
          cases d with
          | zero => rfl
          | succ d =>
            dsimp only [runA, callX, callI']
            have hm : MI X d c.1 c.2.1 c.2.2.2.2.2.1 c.2.2.2.2.2.2 = (MX X d c.1 c.2.1 c.2.2.2.2.2.1 c.2.2.2.2.2.2).map resN := by
              unfold MI MX EI
              cases gd c.1 c.2.1 <;> rfl
            rw [hm]
            cases hc : MX X d c.1 c.2.1 c.2.2.2.2.2.1 c.2.2.2.2.2.2 with
            | none => rfl
            | some r =>
              have hc' : EX X d c.1 0 (entF c.1 c.2.1) [] c.2.2.2.2.2.1 c.2.2.2.2.2.2 = some r := by
                unfold MX at hc
                cases hg : gd c.1 c.2.1 with
                | false => rw [hg] at hc; cases hc
                | true => rw [hg] at hc; exact hc
              obtain ⟨n, hn⟩ := (EX_iff X).mp hc'
              have hk := exec_kind X _ _ _ _ _ _ _ _ _ hn
              dsimp only [oK, Option.map]
              rw [okRk_push hk]
              rfl
/-- is a place a cut -/
def isC (pc : Nat) : List (Nat × List Bool) → Bool
  | [] => false
  | e :: l => bif Nat.beq e.1 pc then true else isC pc l
theorem isC_kil {y pc : Nat} (h : isC pc (cutOf y) = false) (ls : Lv) : kil y pc ls = ls := by
  have e : ∀ l : List (Nat × List Bool), isC pc l = false → kfd pc l = [] := by
    intro l
    induction l with
    | nil => intro _; rfl
    | cons a l ih =>
      intro z
      unfold isC at z
      unfold kfd
      cases hb : Nat.beq a.1 pc with
      | true => rw [hb] at z; cases z
      | false => rw [hb] at z; exact ih z
  unfold kil
  rw [e _ h]
  unfold kl
  rfl
/-- n steps at once; a cut ends them -/
noncomputable def RI (X : Xs) (d y : Nat) : Nat → Nat → Lv → List AV → Sh → Mem → Option Rs
  | 0 => EI X d y
  | n + 1 => fun pc ls st S h => match ftch pc (tabOf y) with
    | none => none
    | some e => stepK X (rkOf y) e.1.1 e.1.2 e.2 pc ls st S h none (fun pc ls => bif isC pc (cutOf y) then EI X d y pc (kil y pc ls) else RI X d y n pc ls) (callI' X d (fun pc ls => bif isC pc (cutOf y) then EI X d y pc (kil y pc ls) else RI X d y n pc ls)) retI
theorem EI_run (X : Xs) (d y : Nat) : ∀ (n pc : Nat) (ls : Lv) (st : List AV) (S : Sh) (h : Mem), EI X d y pc ls st S h = RI X d y n pc ls st S h := by
  intro n
  induction n with
  | zero => intros; rfl
  | succ n ih =>
    intro pc ls st S h
    have e : (fun pc ls => EI X d y pc (kil y pc ls)) = (fun pc ls => bif isC pc (cutOf y) then EI X d y pc (kil y pc ls) else RI X d y n pc ls) := by
      funext pc ls st S h
      cases hc : isC pc (cutOf y) with
      | true => rfl
      | false =>
        rw [isC_kil hc]
        exact ih pc ls st S h
    rw [EI_step, e]
    rfl
