/-! THE TIE: what the abstract cells are on the machine's heap; what is given of a state; kept by calls -/
abbrev GG : Type := (Nat → ClassId) × (Nat → Nat → Nat) × (Nat → ClassId) × (Int → Value) × Nat × Nat × (Nat → Int32)
abbrev gD (G : GG) : va_G := (G.1, G.2.1)
abbrev gC (G : GG) : Nat → ClassId := G.2.2.1
abbrev gR (G : GG) : Int → Value := G.2.2.2.1
abbrev gz (G : GG) : Nat := G.2.2.2.2.1
abbrev gL (G : GG) : Nat := G.2.2.2.2.2.1
abbrev gx (G : GG) : Nat → Int32 := G.2.2.2.2.2.2
def gX (G : GG) : Xs := (gL G, fun j => (gx G j).toInt)
def gA (G : GG) : Nat → Prop := fun q => gz G ≤ q
def TG : List Cond := lw_tbl.filter goodWord
def tyC (ci : Nat) : Nat → FieldType := match ci with
  | 0 => tyX0
  | 1 => tyX1
  | 2 => tyX2
  | 3 => tyX3
  | 4 => tyX4
  | 5 => tyX5
  | 6 => tyX7
  | 7 => tyX8
  | 8 => tyX9
  | 9 => tyX10
  | 10 => tyX11
  | _ => tyX12
def tagF (t : FieldType) : Nat := match t with
  | .long => 1
  | .object _ => 2
  | .array _ => 2
  | .boolean => 3
  | _ => 0
def adr (z : Nat) (r : Int) : Nat := z + (r.toNat - 1)
def cvR (z : Nat) (r : Int) : Option Nat := if r ≤ 0 then none else some (adr z r)
def fV (z t : Nat) (x : Int) : Value := match t with
  | 1 => .long (Int64.ofInt x)
  | 2 => va_rf (cvR z x)
  | _ => .int (Int32.ofInt x)
def cellG (G : GG) (q : Nat × Nat) (f : Nat → Int) : va_E :=
  if q.1 < 12 then .inr (q.1, (List.range q.2).map fun j => fV (gz G) (tagF (tyC q.1 j)) (f j))
  else if q.1 = 21 then .inl (gC G 21, q.2, .inr (.inl fun j => Int64.ofInt (f j)))
  else if q.1 = 24 then .inl (gC G 24, q.2, .inr (.inr (.inr (.inr fun j => cvR (gz G) (f j)))))
  else if q.1 = 25 then .inl (gC G 25, q.2, .inr (.inr (.inr (.inr fun j => cvR (gz G) (f j)))))
  else .inl (gC G q.1, q.2, .inl fun j => Int32.ofInt (f j))
def tysG (G : GG) : List (ClassId × FieldType) := [(gC G 20, .int), (gC G 21, .long), (gC G 22, .byte), (gC G 23, .short), (gC G 24, .object "BestMenDuel$Dawn"), (gC G 25, .array .long)]
def wsG (G : GG) (S : Sh) (h : Mem) : va_W := (List.range (S.length - 1)).map fun k => (gz G + k, cellG G (S.getD (k + 1) (99, 0)) (h (k + 1)))
def xkI (x : Int) : Prop := -2147483648 ≤ x ∧ x < 2147483648
def okJ (x : Int) : Prop := -9223372036854775808 ≤ x ∧ x < 9223372036854775808
def xkT (n : Nat) (t : Nat) (x : Int) : Prop := match t with
  | 1 => okJ x
  | 2 => 0 ≤ x ∧ x < (n : Int)
  | 3 => x = 0 ∨ x = 1
  | 22 => -128 ≤ x ∧ x < 128
  | 23 => -32768 ≤ x ∧ x < 32768
  | _ => xkI x
def tgK (kn j : Nat) : Nat := if kn < 12 then tagF (tyC kn j) else if kn = 21 then 1 else if kn = 24 ∨ kn = 25 then 2 else if kn = 22 then 22 else if kn = 23 then 23 else 0
def xkS (S : Sh) : Prop := S[0]? = some (99, 0) ∧ ∀ (k : Nat) (q : Nat × Nat), 0 < k → S[k]? = some q → (q.1 < 12 ∧ (vwCl[q.1]?).map (fun r => r.2.2) = some q.2) ∨ (20 ≤ q.1 ∧ q.1 ≤ 25 ∧ q.2 ≤ 100000)
def okM (S : Sh) (h : Mem) : Prop := (∀ (k : Nat) (q : Nat × Nat), S[k]? = some q → ∀ j, j < q.2 → xkT S.length (tgK q.1 j) (h k j)) ∧ ∀ k, S.length ≤ k → ∀ j, h k j = 0
def Rel (G : GG) (S : Sh) (h : Mem) (H : Heap) : Prop := xkS S ∧ okM S h ∧ va_P (gD G) vwCl (wsG G S h) H
def cv (G : GG) (v : AV) : Value := match v with
  | .inl x => .int (Int32.ofInt x)
  | .inr (.inl x) => .long (Int64.ofInt x)
  | .inr (.inr r) => if r < 0 then gR G r else if r = 0 then .null else .ref (adr (gz G) r)
def okV (S : Sh) (v : AV) : Prop := match v with
  | .inl x => xkI x
  | .inr (.inl x) => okJ x
  | .inr (.inr r) => r < (S.length : Int) ∧ (r < 0 → -10 ≤ r ∧ r ≤ -2)
def roStat (G : GG) (s : State) (r : Int) (nm : String) (l : List Int) : Prop := ∃ t : Nat, gR G r = .ref t ∧ va_Z "BestMenDuel" nm "[I" (.ref t) (gA G) s s.heap ∧ va_T .int t 4 (fun j => .int (Int32.ofInt (l.getD j 0))) (gA G) s s.heap
def roStr (G : GG) (s : State) (ro rb : Int) (own : String) (idx : Nat) (tx : String) (l : List Int) : Prop := ∃ q t : Nat, gR G ro = .ref q ∧ gR G rb = .ref t ∧ vk_R own idx tx q s ∧ va_O "java/lang/String" q (gA G) s s.heap ∧ va_OF "java/lang/String" "value" "[B" (.ref t) q (gA G) s s.heap ∧ va_OF "java/lang/String" "coder" "B" (.int 0) q (gA G) s s.heap ∧ va_T .byte t l.length (fun j => .int (Int32.ofInt (l.getD j 0))) (gA G) s s.heap
def txW : String := "long sun glare odds thing reach weight breaks man strength life holds meet rest go back strike heal any when near broken fights loop end stop "
def txK : String := " long sun glare odds thing man reach weight breaks strength life holds meet rest go back strike heal any when loop end stop near broken fights "
def roGet (G : GG) (s : State) : Prop := va_Z "java/lang/String" "COMPACT_STRINGS" "Z" (.int 1) (gA G) s s.heap ∧ va_Z "jdk/internal/util/Preconditions" "SIOOBE_FORMATTER" "Ljava/util/function/BiFunction;" (gR G (-10)) (gA G) s s.heap ∧ ∃ o : Option Nat, gR G (-10) = va_rf o
def roNest (s : State) : Prop := va_Nw (.fieldLinkNest "BestMenDuel$Dawn" 66 "BestMenDuel" "RULE_USUAL" "[I" "BestMenDuel") s ∧ va_Nw (.fieldLinkNest "BestMenDuel$DawnReader" 60 "BestMenDuel" "RULE_LOW" "[I" "BestMenDuel") s ∧ va_Nw (.fieldLinkNest "BestMenDuel$DawnReader" 64 "BestMenDuel" "RULE_HIGH" "[I" "BestMenDuel") s ∧ va_Nw (.fieldLinkNest "BestMenDuel$YearsReader" 108 "BestMenDuel" "RULE_HIGH" "[I" "BestMenDuel") s
/-- the table's word of an array of arrays -/
def xAOA (t : FieldType) (U : State) : Prop := (Cond.arrayOver (.array t)).before #[] U = true
theorem xAO_spec {t : FieldType} {U : State} (h : xAOA t U) : ∃ comp c k, U.vm.findClass (FieldType.array t).toString = some comp ∧ (U.vm.classes.findIdx? fun (x : Class) => match x.kind with | .array component _ => component == comp | _ => false) = some c ∧ U.vm.classes[c]? = some k ∧ k.kind = .array comp (.array t) ∧ U.vm.findClass ("[" ++ (FieldType.array t).toString) = some c := by
  unfold xAOA Cond.before Cond.holds at h
  simp only [Cond.value, beq_iff_eq] at h
  cases f1 : U.vm.findClass (FieldType.array t).toString with
  | none => rw [f1] at h; simp at h
  | some comp =>
    simp only [f1, Option.bind_some, Option.bind_eq_some_iff, Option.map_eq_some_iff] at h
    obtain ⟨c, f2, k, f3, f4⟩ := h
    obtain ⟨wl, w, -⟩ := Array.findIdx?_eq_some_iff_getElem.mp f2
    rw [(Array.getElem?_eq_some_iff.mp f3).2] at w
    cases e : k.kind with
    | array comp2 ty =>
      rw [e] at w f4
      simp at w f4
      exact ⟨comp, c, k, rfl, f2, f3, by rw [e, w, f4.1], f4.2⟩
    | _ => rw [e] at f4; simp at f4
theorem xAOA_moved {t : FieldType} {u U : State} (hvm : u.vm.Alike U.vm) (h : xAOA t u) : xAOA t U := by
  obtain ⟨comp, c, k, h1, h2, h3, h4, h5⟩ := xAO_spec h
  obtain ⟨k', hk', he⟩ := hvm.2.2 _ _ h3
  have hi : (U.vm.classes.findIdx? fun (x : Class) => match x.kind with | .array component _ => component == comp | _ => false) = some c := by
    have e1 := va_idx_bare U.vm comp
    have e2 := va_idx_bare u.vm comp
    have eb : U.vm.bare = u.vm.bare := by first | exact hvm.bare_eq | exact hvm.bare_eq.symm
    rw [eb] at e1
    exact (e1.symm.trans e2).trans h2
  have hkind : k'.kind = .array comp (.array t) := by rw [he]; exact h4
  have f1 : U.vm.findClass (FieldType.array t).toString = some comp := by rw [hvm.findClass]; exact h1
  have f2 : U.vm.findClass ("[" ++ (FieldType.array t).toString) = some c := by rw [hvm.findClass]; exact h5
  unfold xAOA Cond.before Cond.holds
  simp only [Cond.value]
  rw [f1, Option.bind_some]
  refine (congrArg (fun o : Option Nat => (o.bind (fun c => (U.vm.classes[c]?).map fun (k : Class) => match k.kind with | .array _ ty => decide (ty = FieldType.array t) && decide (U.vm.findClass ("[" ++ (FieldType.array t).toString) = some c) | _ => false) == some true)) hi).trans ?_
  simp [hk', hkind, f2]
def CX (G : GG) (s : State) : Prop := va_K (gD G) vwCl (tysG G) s ∧ gz G ≤ s.heap.size ∧ (∃ b : Nat, gR G (-2) = .ref b ∧ b < gz G ∧ va_X b (gL G) (gx G) s s.heap) ∧ gL G ≤ 3072 ∧
  roStat G s (-3) "RULE_LOW" [2, 0, 0, 0] ∧ roStat G s (-4) "RULE_HIGH" [12, 99, 9, 16] ∧ roStat G s (-5) "RULE_USUAL" [6, 0, 2, 2] ∧ roStr G s (-8) (-6) "BestMenDuel$Tokens" 29 txW am_words ∧ roStr G s (-9) (-7) "BestMenDuelModel" 183 txK am_keys ∧ roGet G s ∧ roNest s ∧ va_AO "BestMenDuel$Dawn" s ∧ xAOA .long s
theorem va_O_kept {E : String} {t : Nat} {A : Nat → Prop} {U : State} {H H1 : Heap} (h : va_O E t A U H) (hq : ∀ a : Nat, a < H.size → ¬ A a → H1[a]? = H[a]?) : va_O E t A U H1 := by
  obtain ⟨cell, h1, h2, h3, h4⟩ := h
  exact ⟨cell, by rw [hq t (Array.getElem?_eq_some_iff.mp h1).1 h4]; exact h1, h2, h3, h4⟩
theorem va_O_moved {E : String} {t : Nat} {A : Nat → Prop} {u U : State} {H : Heap} (hvm : u.vm.Alike U.vm) (h : va_O E t A u H) : va_O E t A U H := by
  obtain ⟨cell, h1, h2, h3, h4⟩ := h
  exact ⟨cell, h1, h2, by rw [hvm.findClass]; exact h3, h4⟩
theorem CX_moved {G : GG} {s U : State} (hW : s.WarmedH U.vm) (hz : gz G ≤ U.heap.size) (hq : ∀ a : Nat, a < s.heap.size → ¬ gA G a → U.heap[a]? = s.heap[a]?) (h : CX G s) : CX G U := by
  obtain ⟨hK, h1, ⟨b, hb1, hb2, hb3⟩, hL, s3, s4, s5, t1, t2, g1, n1, o1, o2⟩ := h
  have hvm := hW.alike
  have st : ∀ {r : Int} {nm : String} {l : List Int}, roStat G s r nm l → roStat G U r nm l := fun ⟨t, a1, a2, a3⟩ => ⟨t, a1, (a2.moved hvm).kept hq, (a3.moved hvm).kept hq⟩
  have sr : ∀ {ro rb : Int} {own : String} {idx : Nat} {tx : String} {l : List Int}, roStr G s ro rb own idx tx l → roStr G U ro rb own idx tx l := fun ⟨q, t, a1, a2, a3, a4, a5, a6, a7⟩ => ⟨q, t, a1, a2, a3.warm hW, va_O_kept (va_O_moved hvm a4) hq, (a5.moved hvm).kept hq, (a6.moved hvm).kept hq, (a7.moved hvm).kept hq⟩
  refine ⟨hK.moved hvm, hz, ⟨b, hb1, hb2, (hb3.moved hvm).kept (hq b (by omega) (by unfold gA; omega))⟩, hL, st s3, st s4, st s5, sr t1, sr t2, ⟨(g1.1.moved hvm).kept hq, (g1.2.1.moved hvm).kept hq, g1.2.2⟩, ⟨n1.1.warmF hW, n1.2.1.warmF hW, n1.2.2.1.warmF hW, n1.2.2.2.warmF hW⟩, o1.moved hvm, xAOA_moved hvm o2⟩
theorem CX_calling {G : GG} {U : State} {g : JFrame} {mk : MethodId} {a : Array Value} (h : CX G U) : CX G (U.calling g mk a) :=
  CX_moved (s := U) (U := U.calling g mk a) (State.WarmedH.refl U) h.2.1 (fun _ _ _ => rfl) h
