/-! WHAT EACH INSTRUCTION RESTS ON, as a test; every instruction of every method passes it -/
def jB (pc : Nat) (o : Int) : Bool := decide (0 ≤ (pc : Int) + o)
def argN (d : String) : Option Nat := (parseMethodDescriptor d).map (fun d => d.parameters.length)
def atK (a : ArrayType) : Nat := match a with
  | .int => 20
  | .long => 21
  | .byte => 22
  | .short => 23
  | _ => 99
def eB (o : Nat) (ini : Bool) (ml pc : Nat) (i : Instr) (len : Nat) (ax : Nat × Nat × Nat × Int) : Bool :=
  match i with
  | .iconst n => decide (-1 ≤ n) && decide (n ≤ 5)
  | .bipush n => decide (-128 ≤ n) && decide (n < 128)
  | .sipush n => decide (-32768 ≤ n) && decide (n < 32768)
  | .ldc x => len == 2 && (if ax.1 = 1 then (o == 6 && x == 29 && ax.2.2.2 == -8) || (o == 11 && x == 183 && ax.2.2.2 == -9) else tx_cls.any (fun f => f.1 == o && f.2.1 == x && f.2.2.1 == ax.2.2.2))
  | .ldc_w x => len == 3 && !(ax.1 == 1) && tx_cls.any (fun f => f.1 == o && f.2.1 == x && f.2.2.1 == ax.2.2.2)
  | .ldc2_w x => tx_lcs.any (fun f => f.1 == o && f.2.1 == x && f.2.2.1 == ax.2.2.2)
  | .istore_n n => decide (n.val < ml)
  | .istore n => decide (n < ml)
  | .astore_n n => decide (n.val < ml)
  | .astore n => decide (n < ml)
  | .lstore_n n => decide (n.val + 1 < ml)
  | .lstore n => decide (n + 1 < ml)
  | .iinc n _ => decide (n < ml) && len == 3
  | .goto o => jB pc o
  | .ifCond _ o => jB pc o
  | .if_icmp _ o => jB pc o
  | .tableswitch d _ _ offs => jB pc d && offs.toList.all (jB pc)
  | .lookupswitch d ps => jB pc d && ps.toList.all (fun q => jB pc q.2) && (ps.toList.zip (ps.toList.drop 1)).all (fun (a, next) => a.1 < next.1)
  | .getfield x => if ax.1 = 40 then o == 16 && ((x == 9 && ax.2.1 == 0) || (x == 15 && ax.2.1 == 1)) else decide (ax.1 < 12) && tx_fls.any (fun f => f.1 == o && f.2.1 == x && f.2.2.1 == ax.1 && f.2.2.2.1 == ax.2.1) && decide (ax.2.1 < (clN ax.1).2.2) && ax.2.2.1 == tagF (tyC ax.1 ax.2.1)
  | .putfield x => decide (ax.1 < 12) && tx_fls.any (fun f => f.1 == o && f.2.1 == x && f.2.2.1 == ax.1 && f.2.2.2.1 == ax.2.1) && decide (ax.2.1 < (clN ax.1).2.2) && ax.2.2.1 == tagF (tyC ax.1 ax.2.1) && (!((clN ax.1).2.1 ax.2.1).2.2.2 || (ini && ax.1 == o))
  | .getstatic x => (tx_gls.any (fun f => f.1 == o && f.2.1 == x && f.2.2.1 == ax.2.2.2) && ((ax.1 == 1 && (ax.2.2.2 == -3 || ax.2.2.2 == -4 || ax.2.2.2 == -10)) || (ax.1 == 0 && ax.2.2.2 == 1))) || (ax.1 == 1 && ((o == 1 && x == 66 && ax.2.2.2 == -5) || (o == 2 && x == 60 && ax.2.2.2 == -3) || (o == 2 && x == 64 && ax.2.2.2 == -4) || (o == 9 && x == 108 && ax.2.2.2 == -4)))
  | .new x => decide (ax.1 < 12) && tx_kls.any (fun f => f.1 == o && f.2.1 == x && f.2.2.1 == ax.1) && (clN ax.1).2.2 == ax.2.1
  | .newarray a => ax.1 == atK a && decide (ax.1 < 24)
  | .anewarray x => o == 10 && x == 45
  | .multianewarray x n => o == 7 && x == 11 && n == 2
  | .aaload => ax.1 == 24 || ax.1 == 25
  | .invokevirtual x => ax.1 == 9999 || (tx_mls.any (fun f => f.1 == o && f.2.1 == x && f.2.2.1 == ax.1) && decide (ax.1 < 347) && tx_inst.any (fun f => f.1 == ax.1) && tx_sel.any (fun f => f.1 == ax.1) && argN (mdN ax.1).1.desc == some ax.2.1 && (if ax.2.2.1 = 40 then (mdN ax.1).1.cls == "java/lang/String" else decide (ax.2.2.1 < 12) && (mdN ax.1).1.cls == (clN ax.2.2.1).1))
  | .invokespecial x => if ax.2.2.2 = 1 then tx_ols.any (fun f => f.1 == o && f.2.1 == x) && decide (ax.1 < 12) else ax.1 == 9999 || (tx_mls.any (fun f => f.1 == o && f.2.1 == x && f.2.2.1 == ax.1) && decide (ax.1 < 347) && tx_inst.any (fun f => f.1 == ax.1) && argN (mdN ax.1).1.desc == some ax.2.1 && (mdN ax.1).1.name == "<init>" && decide ((mdN ax.1).2.2.2 = none) && decide (ax.2.2.1 < 12))
  | .invokestatic x => if ax.2.2.2 = 1 then tx_als.any (fun f => f.1 == o && f.2.1 == x) else if ax.2.2.2 = 2 ∨ ax.2.2.2 = 3 ∨ ax.2.2.2 = 4 then tx_xls.any (fun f => f.1 == o && f.2.1 == x && f.2.2.1 == ax.2.2.2) else ax.1 == 9999 || (tx_mls.any (fun f => f.1 == o && f.2.1 == x && f.2.2.1 == ax.1) && decide (ax.1 < 347) && tx_stat.any (fun f => f.1 == ax.1) && argN (mdN ax.1).1.desc == some ax.2.1)
  | _ => true
def lnI (i : Instr) : Nat := match i with
  | .bipush _ => 2
  | .sipush _ => 3
  | .ldc _ => 2
  | .ldc_w _ => 3
  | .ldc2_w _ => 3
  | .iload _ => 2
  | .lload _ => 2
  | .aload _ => 2
  | .istore _ => 2
  | .lstore _ => 2
  | .astore _ => 2
  | .iinc _ _ => 3
  | .goto _ => 3
  | .ifCond _ _ => 3
  | .if_icmp _ _ => 3
  | .getfield _ => 3
  | .putfield _ => 3
  | .getstatic _ => 3
  | .invokevirtual _ => 3
  | .invokespecial _ => 3
  | .invokestatic _ => 3
  | .new _ => 3
  | .newarray _ => 2
  | .anewarray _ => 3
  | .multianewarray _ _ => 4
  | _ => 1
def lnB (i : Instr) (len : Nat) : Bool := match i with
  | .tableswitch _ _ _ _ => true
  | .lookupswitch _ _ => true
  | _ => len == lnI i
def rkT (t : Option FieldType) : Nat := match t with
  | none => 0
  | some .int => 1
  | some .long => 2
  | some .boolean => 3
  | some .byte => 4
  | some .char => 4
  | _ => 9
noncomputable def chkM (y : Nat) : Bool := plainName (mdN y).1.cls && (mdN y).1.cls == ownN (ownY.getD y 0) && rkT (mdN y).2.2.2 == rkOf y && (mdN y).2.2.1 == mlOf y && decide ((mdN y).2.2.1 ≤ 40) && !((mdN y).1.cls == "java/lang/invoke/MethodHandle") && !((mdN y).1.cls == "java/lang/invoke/VarHandle") &&
  (tabOf y).all (fun e => decide (decode (mdN y).2.1 e.1 = .ok e.2.1) && lnB e.2.1.1 e.2.1.2 && eB (ownY.getD y 0) ((mdN y).1.name == "<init>") (mdN y).2.2.1 e.1 e.2.1.1 e.2.1.2 e.2.2)
