/-! THE ABSTRACT MACHINE: ints, longs and references as whole numbers; the cells of the two systems as numbers 1, 2 ..; RO cells below 0. -/
abbrev AV : Type := Int ⊕ Int ⊕ Int
abbrev Sh : Type := List (Nat × Nat)
abbrev Mem : Type := Nat → Nat → Int
abbrev Lv : Type := List (Option AV)
abbrev Res : Type := Option AV × Sh × Mem
abbrev Xs : Type := Nat × (Nat → Int)
abbrev TE : Type := Nat × (Instr × Nat) × (Nat × Nat × Nat × Int)
def w32 (x : Int) : Int := Int.bmod x 4294967296
def w64 (x : Int) : Int := Int.bmod x 18446744073709551616
def w16 (x : Int) : Int := Int.bmod x 65536
def w8 (x : Int) : Int := Int.bmod x 256
def am_and (a b : Int) : Int := (Int32.ofInt a &&& Int32.ofInt b).toInt
def am_or (a b : Int) : Int := (Int32.ofInt a ||| Int32.ofInt b).toInt
def am_shl (a b : Int) : Int := (Int32.ofInt a <<< (Int32.ofInt b &&& 31)).toInt
def am_shr (a b : Int) : Int := (Int32.ofInt a >>> (Int32.ofInt b &&& 31)).toInt
def am_ushr (a b : Int) : Int := (((Int32.ofInt a).toUInt32 >>> ((Int32.ofInt b).toUInt32 &&& Int32.toUInt32 31)).toInt32).toInt
def am_land (a b : Int) : Int := (Int64.ofInt a &&& Int64.ofInt b).toInt
def am_lor (a b : Int) : Int := (Int64.ofInt a ||| Int64.ofInt b).toInt
def am_lshl (a b : Int) : Int := (Int64.ofInt a <<< ((Int32.ofInt b).toInt64 &&& 63)).toInt
def am_lshr (a b : Int) : Int := (Int64.ofInt a >>> ((Int32.ofInt b).toInt64 &&& 63)).toInt
def am_div (a b : Int) : Int := w32 (Int.tdiv a b)
def am_rem (a b : Int) : Int := Int.tmod a b
def am_ldiv (a b : Int) : Int := w64 (Int.tdiv a b)
def am_lrem (a b : Int) : Int := Int.tmod a b
def am_lcmp (a b : Int) : Int := if a < b then -1 else if a = b then 0 else 1
def am_min (a b : Int) : Int := if a < b then a else b
def am_max (a b : Int) : Int := if a < b then b else a
def am_abs (a : Int) : Int := if a < 0 then w32 (-a) else a
def am_i2c (a : Int) : Int := a % 65536
/-- the read-only cells: -2 the script, -3 RULE_LOW, -4 RULE_HIGH, -5 RULE_USUAL, -6 and -7 the bytes of the two texts (objects -8, -9) -/
def am_str (r : Int) : List Int := if r = -6 then am_words else if r = -7 then am_keys else []
def am_ro (X : Xs) (r : Int) : Nat × (Nat → Int) :=
  if r = -2 then X else if r = -3 then (4, fun j => [2, 0, 0, 0].getD j 0) else if r = -4 then (4, fun j => [12, 99, 9, 16].getD j 0) else if r = -5 then (4, fun j => [6, 0, 2, 2].getD j 0) else (0, fun _ => 0)
def kd (S : Sh) (r : Int) : Nat := match S[r.toNat]? with
  | some q => q.1
  | none => 99
def ln (S : Sh) (r : Int) : Nat := match S[r.toNat]? with
  | some q => q.2
  | none => 0
def up (h : Mem) (k j : Nat) (x : Int) : Mem := fun a b => if a = k ∧ b = j then x else h a b
def cpy (h : Mem) (sk : Nat) (f : Nat → Int) (sp dp n : Nat) : Mem := fun a b => if a = sk ∧ dp ≤ b ∧ b < dp + n then f (sp + (b - dp)) else h a b
def getf (S : Sh) (h : Mem) (ci : Nat) (r : Int) (j : Nat) : Option Int := if kd S r = ci then some (h r.toNat j) else none
def ald (S : Sh) (h : Mem) (K : Nat) (r i : Int) : Option Int := if kd S r = K ∧ 0 ≤ i ∧ i < (ln S r : Int) then some (h r.toNat i.toNat) else none
def aldI (X : Xs) (S : Sh) (h : Mem) (r i : Int) : Option Int := if r < 0 then (if 0 ≤ i ∧ i < ((am_ro X r).1 : Int) then some ((am_ro X r).2 i.toNat) else none) else ald S h 20 r i
def aldB (S : Sh) (h : Mem) (r i : Int) : Option Int := if r < 0 then (if 0 ≤ i ∧ i < ((am_str r).length : Int) then some ((am_str r).getD i.toNat 0) else none) else ald S h 22 r i
def aln (X : Xs) (S : Sh) (r : Int) : Option Int := if r < 0 then (if r = -2 then some (X.1 : Int) else if r = -6 ∨ r = -7 then some ((am_str r).length : Int) else none) else if 20 ≤ kd S r ∧ kd S r ≤ 25 then some (ln S r : Int) else none
def ast (S : Sh) (h : Mem) (K : Nat) (r i x : Int) : Option Mem := if kd S r = K ∧ 0 ≤ i ∧ i < (ln S r : Int) then some (up h r.toNat i.toNat x) else none
def putf (S : Sh) (h : Mem) (ci : Nat) (r : Int) (j : Nat) (x : Int) : Option Mem := if kd S r = ci then some (up h r.toNat j x) else none
/-- arraycopy: int arrays (from RULE_USUAL too), long arrays -/
def acp (X : Xs) (S : Sh) (h : Mem) (r p q d n : Int) : Option Mem :=
  if r = -5 then (if kd S q = 20 ∧ 0 ≤ p ∧ 0 ≤ d ∧ 0 ≤ n ∧ p + n ≤ 4 ∧ d + n ≤ (ln S q : Int) then some (cpy h q.toNat (am_ro X r).2 p.toNat d.toNat n.toNat) else none)
  else if (kd S r = 20 ∨ kd S r = 21) ∧ kd S q = kd S r ∧ 0 ≤ p ∧ 0 ≤ d ∧ 0 ≤ n ∧ p + n ≤ (ln S r : Int) ∧ d + n ≤ (ln S q : Int) then some (cpy h q.toNat (h r.toNat) p.toNat d.toNat n.toNat) else none
def mkV (t : Nat) (x : Int) : AV := match t with
  | 1 => .inr (.inl x)
  | 2 => .inr (.inr x)
  | _ => .inl x
def unV (t : Nat) (v : AV) : Option Int := match t, v with
  | 0, .inl x => some x
  | 1, .inr (.inl x) => some x
  | 2, .inr (.inr x) => if 0 ≤ x then some x else none
  | 3, .inl x => if x = 0 ∨ x = 1 then some x else none
  | _, _ => none
def cat (v : AV) : Nat := match v with
  | .inr (.inl _) => 2
  | _ => 1
def catS (l : List AV) : Nat := (l.map cat).sum
def ldI (ls : Lv) (i : Nat) : Option Int := match ls[i]? with
  | some (some (.inl x)) => some x
  | _ => none
def ldJ (ls : Lv) (i : Nat) : Option Int := match ls[i]? with
  | some (some (.inr (.inl x))) => some x
  | _ => none
def ldA (ls : Lv) (i : Nat) : Option Int := match ls[i]? with
  | some (some (.inr (.inr x))) => some x
  | _ => none
def clrP (ls : Lv) (i : Nat) : Lv := match i with
  | 0 => ls
  | j + 1 => match ls[j]? with
    | some (some (.inr (.inl _))) => ls.set j none
    | _ => ls
def st1 (ls : Lv) (i : Nat) (v : AV) : Lv := (clrP ls i).set i (some v)
def st2 (ls : Lv) (i : Nat) (v : AV) : Lv := ((clrP ls i).set i (some v)).set (i + 1) none
def tgt (pc : Nat) (off : Int) : Nat := ((pc : Int) + off).toNat
section AK
variable {α : Type}
def pI (st : List AV) (fail : α) (f : Int → List AV → α) : α := match st with
  | .inl a :: r => f a r
  | _ => fail
def pII (st : List AV) (fail : α) (f : Int → Int → List AV → α) : α := match st with
  | .inl b :: .inl a :: r => f a b r
  | _ => fail
def pJ (st : List AV) (fail : α) (f : Int → List AV → α) : α := match st with
  | .inr (.inl a) :: r => f a r
  | _ => fail
def pJJ (st : List AV) (fail : α) (f : Int → Int → List AV → α) : α := match st with
  | .inr (.inl b) :: .inr (.inl a) :: r => f a b r
  | _ => fail
def pJI (st : List AV) (fail : α) (f : Int → Int → List AV → α) : α := match st with
  | .inl b :: .inr (.inl a) :: r => f a b r
  | _ => fail
def pA (st : List AV) (fail : α) (f : Int → List AV → α) : α := match st with
  | .inr (.inr a) :: r => f a r
  | _ => fail
def pAI (st : List AV) (fail : α) (f : Int → Int → List AV → α) : α := match st with
  | .inl b :: .inr (.inr a) :: r => f a b r
  | _ => fail
def pAII (st : List AV) (fail : α) (f : Int → Int → Int → List AV → α) : α := match st with
  | .inl c :: .inl b :: .inr (.inr a) :: r => f a b c r
  | _ => fail
def pAIJ (st : List AV) (fail : α) (f : Int → Int → Int → List AV → α) : α := match st with
  | .inr (.inl c) :: .inl b :: .inr (.inr a) :: r => f a b c r
  | _ => fail
def pAIA (st : List AV) (fail : α) (f : Int → Int → Int → List AV → α) : α := match st with
  | .inr (.inr c) :: .inl b :: .inr (.inr a) :: r => f a b c r
  | _ => fail
def pVA (st : List AV) (fail : α) (f : AV → Int → List AV → α) : α := match st with
  | v :: .inr (.inr a) :: r => f v a r
  | _ => fail
def pV (st : List AV) (fail : α) (f : AV → List AV → α) : α := match st with
  | v :: r => f v r
  | _ => fail
def pVV (st : List AV) (fail : α) (f : AV → AV → List AV → α) : α := match st with
  | v :: w :: r => f v w r
  | _ => fail
def pCP (st : List AV) (fail : α) (f : Int → Int → Int → Int → Int → List AV → α) : α := match st with
  | .inl n :: .inl d :: .inr (.inr q) :: .inl p :: .inr (.inr r) :: rest => f r p q d n rest
  | _ => fail
def tsw (a : Int) (f : Int → α) (d : α) : Int → List Int → α
  | _, [] => d
  | lo, o :: l => if a = lo then f o else tsw a f d (lo + 1) l
def lsw (a : Int) (f : Int → α) (d : α) : List (Int × Int) → α
  | [] => d
  | q :: l => if a = q.1 then f q.2 else lsw a f d l
def oK {β : Type} (x : Option β) (fail : α) (f : β → α) : α := match x with
  | some v => f v
  | none => fail
def stepK (X : Xs) (rk : Nat) (i : Instr) (len : Nat) (ax : Nat × Nat × Nat × Int) (pc : Nat) (ls : Lv) (st : List AV) (S : Sh) (h : Mem) (fail : α)
    (k : Nat → Lv → List AV → Sh → Mem → α) (call : Nat → List AV → Nat → Lv → List AV → Sh → Mem → α) (ret : Option AV → Sh → Mem → α) : α :=
  match i with
  | .iconst n => k (pc + 1) ls (.inl n :: st) S h
  | .bipush n => k (pc + 2) ls (.inl n :: st) S h
  | .sipush n => k (pc + 3) ls (.inl n :: st) S h
  | .lconst n => k (pc + 1) ls (.inr (.inl (n.val : Int)) :: st) S h
  | .ldc _ => if ax.1 = 1 then k (pc + 2) ls (.inr (.inr ax.2.2.2) :: st) S h else k (pc + 2) ls (.inl ax.2.2.2 :: st) S h
  | .ldc_w _ => if ax.1 = 1 then k (pc + 3) ls (.inr (.inr ax.2.2.2) :: st) S h else k (pc + 3) ls (.inl ax.2.2.2 :: st) S h
  | .ldc2_w _ => k (pc + 3) ls (.inr (.inl ax.2.2.2) :: st) S h
  | .iload_n n => oK (ldI ls n.val) fail fun x => k (pc + 1) ls (.inl x :: st) S h
  | .iload n => oK (ldI ls n) fail fun x => k (pc + 2) ls (.inl x :: st) S h
  | .lload_n n => oK (ldJ ls n.val) fail fun x => k (pc + 1) ls (.inr (.inl x) :: st) S h
  | .lload n => oK (ldJ ls n) fail fun x => k (pc + 2) ls (.inr (.inl x) :: st) S h
  | .aload_n n => oK (ldA ls n.val) fail fun x => k (pc + 1) ls (.inr (.inr x) :: st) S h
  | .aload n => oK (ldA ls n) fail fun x => k (pc + 2) ls (.inr (.inr x) :: st) S h
  | .istore_n n => pI st fail fun x r => k (pc + 1) (st1 ls n.val (.inl x)) r S h
  | .istore n => pI st fail fun x r => k (pc + 2) (st1 ls n (.inl x)) r S h
  | .lstore_n n => pJ st fail fun x r => k (pc + 1) (st2 ls n.val (.inr (.inl x))) r S h
  | .lstore n => pJ st fail fun x r => k (pc + 2) (st2 ls n (.inr (.inl x))) r S h
  | .astore_n n => pA st fail fun x r => k (pc + 1) (st1 ls n.val (.inr (.inr x))) r S h
  | .astore n => pA st fail fun x r => k (pc + 2) (st1 ls n (.inr (.inr x))) r S h
  | .iinc n d => oK (ldI ls n) fail fun x => k (pc + 3) (st1 ls n (.inl (w32 (x + d)))) st S h
  | .dup => pV st fail fun v r => if cat v = 1 then k (pc + 1) ls (v :: v :: r) S h else fail
  | .pop => pV st fail fun v r => if cat v = 1 then k (pc + 1) ls r S h else fail
  | .dup2 => pVV st fail fun v w r => if cat v = 1 ∧ cat w = 1 then k (pc + 1) ls (v :: w :: v :: w :: r) S h else fail
  | .iadd => pII st fail fun a b r => k (pc + 1) ls (.inl (w32 (a + b)) :: r) S h
  | .isub => pII st fail fun a b r => k (pc + 1) ls (.inl (w32 (a - b)) :: r) S h
  | .imul => pII st fail fun a b r => k (pc + 1) ls (.inl (w32 (a * b)) :: r) S h
  | .idiv => pII st fail fun a b r => if b = 0 then fail else k (pc + 1) ls (.inl (am_div a b) :: r) S h
  | .irem => pII st fail fun a b r => if b = 0 then fail else k (pc + 1) ls (.inl (am_rem a b) :: r) S h
  | .ineg => pI st fail fun a r => k (pc + 1) ls (.inl (w32 (-a)) :: r) S h
  | .iand => pII st fail fun a b r => k (pc + 1) ls (.inl (am_and a b) :: r) S h
  | .ior => pII st fail fun a b r => k (pc + 1) ls (.inl (am_or a b) :: r) S h
  | .ishl => pII st fail fun a b r => k (pc + 1) ls (.inl (am_shl a b) :: r) S h
  | .ishr => pII st fail fun a b r => k (pc + 1) ls (.inl (am_shr a b) :: r) S h
  | .iushr => pII st fail fun a b r => k (pc + 1) ls (.inl (am_ushr a b) :: r) S h
  | .ladd => pJJ st fail fun a b r => k (pc + 1) ls (.inr (.inl (w64 (a + b))) :: r) S h
  | .lsub => pJJ st fail fun a b r => k (pc + 1) ls (.inr (.inl (w64 (a - b))) :: r) S h
  | .lmul => pJJ st fail fun a b r => k (pc + 1) ls (.inr (.inl (w64 (a * b))) :: r) S h
  | .ldiv => pJJ st fail fun a b r => if b = 0 then fail else k (pc + 1) ls (.inr (.inl (am_ldiv a b)) :: r) S h
  | .lrem => pJJ st fail fun a b r => if b = 0 then fail else k (pc + 1) ls (.inr (.inl (am_lrem a b)) :: r) S h
  | .land => pJJ st fail fun a b r => k (pc + 1) ls (.inr (.inl (am_land a b)) :: r) S h
  | .lor => pJJ st fail fun a b r => k (pc + 1) ls (.inr (.inl (am_lor a b)) :: r) S h
  | .lshl => pJI st fail fun a b r => k (pc + 1) ls (.inr (.inl (am_lshl a b)) :: r) S h
  | .lshr => pJI st fail fun a b r => k (pc + 1) ls (.inr (.inl (am_lshr a b)) :: r) S h
  | .lcmp => pJJ st fail fun a b r => k (pc + 1) ls (.inl (am_lcmp a b) :: r) S h
  | .i2l => pI st fail fun a r => k (pc + 1) ls (.inr (.inl a) :: r) S h
  | .l2i => pJ st fail fun a r => k (pc + 1) ls (.inl (w32 a) :: r) S h
  | .i2b => pI st fail fun a r => k (pc + 1) ls (.inl (w8 a) :: r) S h
  | .i2s => pI st fail fun a r => k (pc + 1) ls (.inl (w16 a) :: r) S h
  | .i2c => pI st fail fun a r => k (pc + 1) ls (.inl (am_i2c a) :: r) S h
  | .goto o => k (tgt pc o) ls st S h
  | .ifCond .eq o => pI st fail fun a r => if a = 0 then k (tgt pc o) ls r S h else k (pc + 3) ls r S h
  | .ifCond .ne o => pI st fail fun a r => if a = 0 then k (pc + 3) ls r S h else k (tgt pc o) ls r S h
  | .ifCond .lt o => pI st fail fun a r => if a < 0 then k (tgt pc o) ls r S h else k (pc + 3) ls r S h
  | .ifCond .ge o => pI st fail fun a r => if a < 0 then k (pc + 3) ls r S h else k (tgt pc o) ls r S h
  | .ifCond .gt o => pI st fail fun a r => if 0 < a then k (tgt pc o) ls r S h else k (pc + 3) ls r S h
  | .ifCond .le o => pI st fail fun a r => if 0 < a then k (pc + 3) ls r S h else k (tgt pc o) ls r S h
  | .if_icmp .eq o => pII st fail fun a b r => if a = b then k (tgt pc o) ls r S h else k (pc + 3) ls r S h
  | .if_icmp .ne o => pII st fail fun a b r => if a = b then k (pc + 3) ls r S h else k (tgt pc o) ls r S h
  | .if_icmp .lt o => pII st fail fun a b r => if a < b then k (tgt pc o) ls r S h else k (pc + 3) ls r S h
  | .if_icmp .ge o => pII st fail fun a b r => if a < b then k (pc + 3) ls r S h else k (tgt pc o) ls r S h
  | .if_icmp .gt o => pII st fail fun a b r => if b < a then k (tgt pc o) ls r S h else k (pc + 3) ls r S h
  | .if_icmp .le o => pII st fail fun a b r => if b < a then k (pc + 3) ls r S h else k (tgt pc o) ls r S h
  | .tableswitch d lo hi offs => pI st fail fun a r => if hi + 1 - lo = (offs.toList.length : Int) then tsw a (fun o => k (tgt pc o) ls r S h) (k (tgt pc d) ls r S h) lo offs.toList else fail
  | .lookupswitch d ps => pI st fail fun a r => lsw a (fun o => k (tgt pc o) ls r S h) (k (tgt pc d) ls r S h) ps.toList
  | .getfield _ => pA st fail fun a r => if ax.1 = 40 then (if a = -8 ∨ a = -9 then (if ax.2.1 = 0 then k (pc + 3) ls (.inr (.inr (a + 2)) :: r) S h else k (pc + 3) ls (.inl 0 :: r) S h) else fail) else oK (getf S h ax.1 a ax.2.1) fail fun x => k (pc + 3) ls (mkV ax.2.2.1 x :: r) S h
  | .putfield _ => pVA st fail fun v a r => oK (unV ax.2.2.1 v) fail fun x => oK (putf S h ax.1 a ax.2.1 x) fail fun h' => k (pc + 3) ls r S h'
  | .getstatic _ => if ax.1 = 1 then k (pc + 3) ls (.inr (.inr ax.2.2.2) :: st) S h else k (pc + 3) ls (.inl ax.2.2.2 :: st) S h
  | .iaload => pAI st fail fun a b r => oK (aldI X S h a b) fail fun x => k (pc + 1) ls (.inl x :: r) S h
  | .laload => pAI st fail fun a b r => oK (ald S h 21 a b) fail fun x => k (pc + 1) ls (.inr (.inl x) :: r) S h
  | .baload => pAI st fail fun a b r => oK (aldB S h a b) fail fun x => k (pc + 1) ls (.inl x :: r) S h
  | .saload => pAI st fail fun a b r => oK (ald S h 23 a b) fail fun x => k (pc + 1) ls (.inl x :: r) S h
  | .aaload => pAI st fail fun a b r => oK (ald S h ax.1 a b) fail fun x => k (pc + 1) ls (.inr (.inr x) :: r) S h
  | .iastore => pAII st fail fun a b x r => oK (ast S h 20 a b x) fail fun h' => k (pc + 1) ls r S h'
  | .lastore => pAIJ st fail fun a b x r => oK (ast S h 21 a b x) fail fun h' => k (pc + 1) ls r S h'
  | .bastore => pAII st fail fun a b x r => oK (ast S h 22 a b (w8 x)) fail fun h' => k (pc + 1) ls r S h'
  | .sastore => pAII st fail fun a b x r => oK (ast S h 23 a b (w16 x)) fail fun h' => k (pc + 1) ls r S h'
  | .aastore => pAIA st fail fun a b x r => if kd S x = 1 then oK (ast S h 24 a b x) fail fun h' => k (pc + 1) ls r S h' else fail
  | .arraylength => pA st fail fun a r => oK (aln X S a) fail fun x => k (pc + 1) ls (.inl x :: r) S h
  | .new _ => k (pc + 3) ls (.inr (.inr (S.length : Int)) :: st) (S ++ [(ax.1, ax.2.1)]) h
  | .newarray _ => pI st fail fun n r => if 0 ≤ n ∧ n ≤ 100000 then k (pc + 2) ls (.inr (.inr (S.length : Int)) :: r) (S ++ [(ax.1, n.toNat)]) h else fail
  | .anewarray _ => pI st fail fun n r => if 0 ≤ n ∧ n ≤ 100000 then k (pc + 3) ls (.inr (.inr (S.length : Int)) :: r) (S ++ [(24, n.toNat)]) h else fail
  | .multianewarray _ _ => pII st fail fun n b r => if n = 4 ∧ b = 60 then k (pc + 4) ls (.inr (.inr (S.length : Int)) :: r) (S ++ [(25, 4), (21, 60), (21, 60), (21, 60), (21, 60)]) (fun a j => if a = S.length ∧ j < 4 then (S.length : Int) + 1 + j else h a j) else fail
  | .invokevirtual _ => pA (st.drop ax.2.1) fail fun a r => if catS r ≤ 8 then (if ax.2.2.1 = 40 then (if a = -8 ∨ a = -9 then call ax.1 (.inr (.inr a) :: (st.take ax.2.1).reverse) (pc + 3) ls r S h else fail) else if kd S a = ax.2.2.1 then call ax.1 (.inr (.inr a) :: (st.take ax.2.1).reverse) (pc + 3) ls r S h else fail) else fail
  | .invokespecial _ => if ax.2.2.2 = 1 then (pA st fail fun a r => if catS r ≤ 8 then (if kd S a = ax.1 then k (pc + 3) ls r S h else fail) else fail) else pA (st.drop ax.2.1) fail fun a r => if catS r ≤ 8 then (if kd S a = ax.2.2.1 then call ax.1 (.inr (.inr a) :: (st.take ax.2.1).reverse) (pc + 3) ls r S h else fail) else fail
  | .invokestatic _ => if ax.2.2.2 = 1 then (pCP st fail fun a p q d n r => if catS r ≤ 8 then (oK (acp X S h a p q d n) fail fun h' => k (pc + 3) ls r S h') else fail) else if ax.2.2.2 = 2 then (pII st fail fun a b r => if catS r ≤ 8 then k (pc + 3) ls (.inl (am_min a b) :: r) S h else fail) else if ax.2.2.2 = 3 then (pII st fail fun a b r => if catS r ≤ 8 then k (pc + 3) ls (.inl (am_max a b) :: r) S h else fail) else if ax.2.2.2 = 4 then (pI st fail fun a r => if catS r ≤ 8 then k (pc + 3) ls (.inl (am_abs a) :: r) S h else fail) else if (st.take ax.2.1).length = ax.2.1 then (if catS (st.drop ax.2.1) ≤ 8 then call ax.1 (st.take ax.2.1).reverse (pc + 3) ls (st.drop ax.2.1) S h else fail) else fail
  | .ireturn => pI st fail fun a r => match r with
    | [] => if rk = 1 then ret (some (.inl a)) S h else if rk = 3 then (if a = 0 ∨ a = 1 then ret (some (.inl a)) S h else fail) else if rk = 4 then (if 0 ≤ a ∧ a < 128 then ret (some (.inl a)) S h else fail) else fail
    | _ :: _ => fail
  | .lreturn => pJ st fail fun a r => match r with
    | [] => if rk = 2 then ret (some (.inr (.inl a))) S h else fail
    | _ :: _ => fail
  | .return_ => match st with
    | [] => if rk = 0 then ret none S h else fail
    | _ :: _ => fail
  | _ => fail
end AK
