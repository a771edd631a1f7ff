-- ===== end of PART A; then your names; then what follows =====
/-! THE CLAIM OUT OF ONE WALK OF THE LAW'S BODY. Your part is whole_start (and what it stands on); all else here is the same for every law, but numbers. -/
def R_law : String := "BestMenDuelLaw"
def lw_P (b : Addr) (xs : List Int32) (args : Array Value) (s : State) : Prop := args = #[.ref b] ∧ s.IntsAt b xs ∧ xs.length ≤ 3072 ∧ (Jvm.Cond.and given_1 narrow_1).before args s = true
def lw_Q (_ : Array Value) (s : State) (o : Outcome) (t : State) : Prop := o = .returned (some (.int 1)) ∧ Framed s o t [] 600000 7302250
def lw_Z (below : List Frame) (a : Array Value) (s : State) : State → Prop := fun t => ∃ o, t.status = .running ∧ Ended t below o ∧ lw_Q a s o t
/-- the law's own end, with 1 on the stack, nothing written that was there before, its room as the claim has it -/
theorem lw_ret {p : Program} {l : Launch} {e : Env} {s : State} {m : MethodId} {below : List Frame} {meth : Method} {c : Code} {b : Nat} (hx : p.tables.exec = Jvm.exec) (hb : c.code = code) (hr : meth.sig.returnType = ret) (hlocks : meth.locks = false) {pc : Nat} {H : Heap} {ls : Array Slot} (hdg : decode code pc = .ok (.ireturn, 1)) : W p l e room_1 s m #[Value.ref b] below meth c H [] 600000 7302250 (lw_Z below #[Value.ref b] s) (F0 m pc ls [.int 1]) := by
  intro T hT X
  obtain ⟨fs, hret, hrun, hended, hW, hframe⟩ := X.leave (v := some (.int 1)) (hlocks := hlocks) (fun h => by rw [hr] at h; cases h)
  have hmeth' : T.vm.method? m = some meth := X.method'
  refine ⟨T.setFrames fs, ?_, .returned (some (.int 1)), hrun, hended, rfl, ⟨_, rfl⟩, hW, hframe⟩
  jvm_step X.here [X.here.top, hx, hb, hdg, hmeth', hr, ret, narrow_b1]
  (try refine ⟨rfl, ?_⟩); (try refine ⟨rfl, ?_⟩)
  first | (intro acts; rw [hret _ acts rfl rfl rfl]) | rw [hret _ _ rfl rfl rfl]
  exact Steps.refl _
/-- what holds at the law's entry: the machine, the code, the tables' words (any of lw_tbl by 'hts w (by decide +kernel)'), the script of L ints xs at the cell b, what the Statement gives of the start (any of its parts by flat_of_before) -/
def lw_At (p : Program) (s : State) (m : MethodId) (meth : Method) (c : Code) (b L : Nat) (xs : Nat → Int32) : Prop :=
  p.tables.exec = Jvm.exec ∧ c.code = code ∧ meth.sig.returnType = ret ∧ c.maxLocals = 4 ∧ s.vm.findClass R_law = some m.cls ∧ (∀ w ∈ lw_tbl, w.before #[Value.ref b] s = true) ∧ va_X b L xs s s.heap ∧ b < s.heap.size ∧ meth.locks = false ∧ (Jvm.Cond.and given_1 narrow_1).before #[Value.ref b] s = true
/-- the words of a rule's text, of a string's bytes, among what is given -/
def gvL : List Cond := flatC (Jvm.Cond.and given_1 narrow_1)
def stT (own : String) (ix : Nat) : Term := .field (.string own ix) "java/lang/String" "value" "[B"
theorem gv_usual : ∀ j, j < 4 → gvL[12 + j]? = some (Cond.eq (.elem (.static "BestMenDuel" "RULE_USUAL" "[I") (.int (Int32.ofNat j))) (.int (Int32.ofInt (([6, 0, 2, 2] : List Int).getD j 0)))) := by decide +kernel
theorem gv_low : ∀ j, j < 4 → gvL[19 + j]? = some (Cond.eq (.elem (.static "BestMenDuel" "RULE_LOW" "[I") (.int (Int32.ofNat j))) (.int (Int32.ofInt (([2, 0, 0, 0] : List Int).getD j 0)))) := by decide +kernel
theorem gv_high : ∀ j, j < 4 → gvL[26 + j]? = some (Cond.eq (.elem (.static "BestMenDuel" "RULE_HIGH" "[I") (.int (Int32.ofNat j))) (.int (Int32.ofInt (([12, 99, 9, 16] : List Int).getD j 0)))) := by decide +kernel
set_option maxRecDepth 20000 in
theorem gv_words : ∀ j, j < 142 → gvL[34 + j]? = some (Cond.eq (.elem (stT "BestMenDuel$Tokens" 29) (.int (Int32.ofNat j))) (.int (Int32.ofInt (am_words.getD j 0)))) := by decide +kernel
set_option maxRecDepth 20000 in
theorem gv_keys : ∀ j, j < 143 → gvL[180 + j]? = some (Cond.eq (.elem (stT "BestMenDuelModel" 183) (.int (Int32.ofNat j))) (.int (Int32.ofInt (am_keys.getD j 0)))) := by decide +kernel
theorem gv_at {s : State} {b i : Nat} {w : Cond} (h : ∀ w ∈ gvL, w.before #[Value.ref b] s = true) (hw : gvL[i]? = some w) : w.before #[Value.ref b] s = true := h w (List.mem_of_getElem? hw)
theorem arr_of {s : State} {b : Nat} {ty : FieldType} (ho : ∀ C, ty ≠ .object C) (h : (Cond.arrayClass ty).before #[Value.ref b] s = true) : ∃ c, ArrOfT s c ty ∧ va_RA s c ty := by
  obtain ⟨c, k, comp, h1, h2, h3⟩ := Cond.arrayClass_spec (args := #[Value.ref b]) (first := s) (o := none) (s := s) (idx := []) h
  refine ⟨c, fun n z => ⟨(fun k h => by cases h), k, h2, comp, h3⟩, ?_⟩
  cases ty with
  | object C => exact absurd rfl (ho C)
  | _ => exact h1
theorem st_of {s : State} {b : Nat} {A : Nat → Prop} {nm : String} {l : List Int} (h8 : (Cond.arrayOf (.static "BestMenDuel" nm "[I") .int).before #[Value.ref b] s = true) (h9 : (Cond.eq (.length (.static "BestMenDuel" nm "[I")) (.int 4)).before #[Value.ref b] s = true) (hel : ∀ j, j < 4 → (Cond.eq (.elem (.static "BestMenDuel" nm "[I") (.int (Int32.ofNat j))) (.int (Int32.ofInt (l.getD j 0)))).before #[Value.ref b] s = true) (hl : (Cond.laysStatic "BestMenDuel" nm "[I").before #[Value.ref b] s = true) (hi : (Cond.initialized "BestMenDuel").before #[Value.ref b] s = true) (hA : ∀ a : Nat, a < s.heap.size → ¬ A a) : ∃ t : Nat, va_Z "BestMenDuel" nm "[I" (.ref t) A s s.heap ∧ va_T .int t 4 (fun j => .int (Int32.ofInt (l.getD j 0))) A s s.heap := by
  obtain ⟨t, ht, hT⟩ := va_Tof (N := 4) (f := fun j => .int (Int32.ofInt (l.getD j 0))) (by decide) h8 (va_eqt h9) (fun j hj => va_eqt (hel j hj)) hA
  exact ⟨t, va_Zof hl hi ht hA, hT⟩
theorem str_of {s : State} {b : Nat} {A : Nat → Prop} {own : String} {ix : Nat} {tx : String} {l : List Int} {N : Nat} (hN : l.length = N) (hN2 : N < 2 ^ 31) (hr : (Cond.stringRef own ix tx).before #[Value.ref b] s = true) (he : (Cond.exactly (.string own ix) "java/lang/String").before #[Value.ref b] s = true) (hc : (Cond.eq (.field (.string own ix) "java/lang/String" "coder" "B") (.int 0)).before #[Value.ref b] s = true) (h8 : (Cond.arrayOf (stT own ix) .byte).before #[Value.ref b] s = true) (h9 : (Cond.eq (.length (stT own ix)) (.int (Int32.ofNat N))).before #[Value.ref b] s = true)
    (hel : ∀ j, j < N → (Cond.eq (.elem (stT own ix) (.int (Int32.ofNat j))) (.int (Int32.ofInt (l.getD j 0)))).before #[Value.ref b] s = true) (hA : ∀ a : Nat, a < s.heap.size → ¬ A a) : ∃ q t : Nat, vk_R own ix tx q s ∧ va_O "java/lang/String" q A s s.heap ∧ va_OF "java/lang/String" "value" "[B" (.ref t) q A s s.heap ∧ va_OF "java/lang/String" "coder" "B" (.int 0) q A s s.heap ∧ va_T .byte t l.length (fun j => .int (Int32.ofInt (l.getD j 0))) A s s.heap := by
  subst hN
  obtain ⟨q, c, cA, kA, q1, -⟩ := Cond.exactly_spec (args := #[Value.ref b]) (first := s) (o := none) (s := s) (idx := []) (t := .string own ix) (cls := "java/lang/String") he
  obtain ⟨t, ht, hT⟩ := va_Tof (f := fun j => .int (Int32.ofInt (l.getD j 0))) hN2 h8 (va_eqt h9) (fun j hj => va_eqt (hel j hj)) hA
  exact ⟨q, t, vk_R.of hr q1, va_Oof he q1 hA, vk_OFof q1 ht hA, vk_OFof q1 (va_eqt hc) hA, hT⟩
def lawR (b t3 t4 t5 t6 t7 q8 q9 : Nat) (v : Value) (r : Int) : Value := match r with
  | .negSucc 1 => .ref b
  | .negSucc 2 => .ref t3
  | .negSucc 3 => .ref t4
  | .negSucc 4 => .ref t5
  | .negSucc 5 => .ref t6
  | .negSucc 6 => .ref t7
  | .negSucc 7 => .ref q8
  | .negSucc 8 => .ref q9
  | .negSucc 9 => v
  | _ => .null
def lawC (c0 c1 c2 c3 c4 c5 : ClassId) (k : Nat) : ClassId := match k with
  | 20 => c0
  | 21 => c1
  | 22 => c2
  | 23 => c3
  | 24 => c4
  | _ => c5
def lawG (dC : Nat → ClassId) (dI : Nat → Nat → Nat) (cy : Nat → ClassId) (ro : Int → Value) (z L : Nat) (xs : Nat → Int32) : GG := (dC, dI, cy, ro, z, L, xs)
set_option maxHeartbeats 4000000 in
/-- what the Statement gives is all that the tie asks -/
theorem cx_start {s : State} {b L : Nat} {xs : Nat → Int32} (hL : L ≤ 3072) (hts : ∀ w ∈ lw_tbl, w.before #[Value.ref b] s = true) (hX : va_X b L xs s s.heap) (hbl : b < s.heap.size) (hgv : (Jvm.Cond.and given_1 narrow_1).before #[Value.ref b] s = true) :
    ∃ G : GG, CX G s ∧ gz G = s.heap.size ∧ gL G = L ∧ gx G = xs ∧ gR G (-2) = .ref b := by
  have htg : ∀ w ∈ TG, w.before #[Value.ref b] s = true := fun w hw => hts w (List.mem_filter.mp hw).1
  have hfl : ∀ w ∈ gvL, w.before #[Value.ref b] s = true := flat_of_before _ hgv
  have hA : ∀ a : Nat, a < s.heap.size → ¬ (fun q => s.heap.size ≤ q) a := fun a h1 h2 => Nat.not_lt.mpr h2 h1
  have hc : ∀ ci : Nat, ∃ q : ClassId × (Nat → Nat), ci < 12 → u_Kn s (clN ci).1 (clN ci).2.1 (clN ci).2.2 q.1 q.2 := by
    intro ci
    by_cases h : ci < 12
    · obtain ⟨a, i, k⟩ := u_known htg (cl_in h) (htg _ (cl_inst h).1)
      exact ⟨(a, i), fun _ => k⟩
    · exact ⟨((0 : Nat), fun _ => 0), fun z => absurd z h⟩
  obtain ⟨fc, hfc⟩ := Classical.axiomOfChoice hc
  obtain ⟨c0, a0, r0⟩ := arr_of (fun C h => by cases h) (htg _ TG_arr.1)
  obtain ⟨c1, a1, r1⟩ := arr_of (fun C h => by cases h) (htg _ TG_arr.2.1)
  obtain ⟨c2, a2, r2⟩ := arr_of (fun C h => by cases h) (htg _ TG_arr.2.2.1)
  obtain ⟨c3, a3, r3⟩ := arr_of (fun C h => by cases h) (htg _ TG_arr.2.2.2)
  have w4 : (Cond.arrayOver (.object "BestMenDuel$Dawn")).before #[Value.ref b] s = true := hts _ (by decide +kernel)
  have w5 : xAOA .long s := hts (Cond.arrayOver (.array .long)) (by decide +kernel)
  obtain ⟨p4, c4, k4, d1, d2, d3, d4, d5⟩ := Cond.arrayOver_spec (args := #[Value.ref b]) (first := s) (o := none) (s := s) (idx := []) w4
  obtain ⟨p5, c5, k5, e1, e2, e3, e4, e5⟩ := xAO_spec w5
  have hst : (Cond.initialized "BestMenDuel").before #[Value.ref b] s = true := hts _ (by decide +kernel)
  obtain ⟨t5, z5, y5⟩ := st_of (A := fun q => s.heap.size ≤ q) (nm := "RULE_USUAL") (l := [6, 0, 2, 2]) (gv_at hfl (i := 10) (by decide +kernel)) (gv_at hfl (i := 11) (by decide +kernel)) (fun j hj => gv_at hfl (gv_usual j hj)) (hts _ (by decide +kernel)) hst hA
  obtain ⟨t3, z3, y3⟩ := st_of (A := fun q => s.heap.size ≤ q) (nm := "RULE_LOW") (l := [2, 0, 0, 0]) (gv_at hfl (i := 17) (by decide +kernel)) (gv_at hfl (i := 18) (by decide +kernel)) (fun j hj => gv_at hfl (gv_low j hj)) (hts _ (by decide +kernel)) hst hA
  obtain ⟨t4, z4, y4⟩ := st_of (A := fun q => s.heap.size ≤ q) (nm := "RULE_HIGH") (l := [12, 99, 9, 16]) (gv_at hfl (i := 24) (by decide +kernel)) (gv_at hfl (i := 25) (by decide +kernel)) (fun j hj => gv_at hfl (gv_high j hj)) (hts _ (by decide +kernel)) hst hA
  obtain ⟨q8, t6, g8⟩ := str_of (A := fun q => s.heap.size ≤ q) (own := "BestMenDuel$Tokens") (ix := 29) (tx := txW) (l := am_words) (N := 142) (by decide +kernel) (by decide) (hts _ (by decide +kernel)) (gv_at hfl (i := 30) (by decide +kernel)) (gv_at hfl (i := 31) (by decide +kernel)) (gv_at hfl (i := 32) (by decide +kernel)) (gv_at hfl (i := 33) (by decide +kernel)) (fun j hj => gv_at hfl (gv_words j hj)) hA
  obtain ⟨q9, t7, g9⟩ := str_of (A := fun q => s.heap.size ≤ q) (own := "BestMenDuelModel") (ix := 183) (tx := txK) (l := am_keys) (N := 143) (by decide +kernel) (by decide) (hts _ (by decide +kernel)) (gv_at hfl (i := 176) (by decide +kernel)) (gv_at hfl (i := 177) (by decide +kernel)) (gv_at hfl (i := 178) (by decide +kernel)) (gv_at hfl (i := 179) (by decide +kernel)) (fun j hj => gv_at hfl (gv_keys j hj)) hA
  have wc : (Term.static "java/lang/String" "COMPACT_STRINGS" "Z").eval #[Value.ref b] s none [] s = some (.int 1) := va_eqt (gv_at hfl (i := 4) (by decide +kernel))
  have wf : (Cond.isRef (Term.static "jdk/internal/util/Preconditions" "SIOOBE_FORMATTER" "Ljava/util/function/BiFunction;")).before #[Value.ref b] s = true := gv_at hfl (i := 5) (by decide +kernel)
  obtain ⟨v, hv, hr⟩ := Cond.isRef_spec (args := #[Value.ref b]) (first := s) (o := none) (s := s) (idx := []) wf
  have ho : ∃ o : Option Nat, v = va_rf o := by
    cases v with
    | null => exact ⟨none, rfl⟩
    | ref a => exact ⟨some a, rfl⟩
    | _ => cases hr
  refine ⟨lawG (fun ci => (fc ci).1) (fun ci => (fc ci).2) (lawC c0 c1 c2 c3 c4 c5) (lawR b t3 t4 t5 t6 t7 q8 q9 v) s.heap.size L xs, ⟨⟨fun c q hq => ?_, fun k q hq => ?_⟩, Nat.le_refl _, ⟨b, rfl, hbl, hX⟩, hL, ⟨t3, rfl, z3, y3⟩, ⟨t4, rfl, z4, y4⟩, ⟨t5, rfl, z5, y5⟩, ⟨q8, t6, rfl, rfl, g8⟩, ⟨q9, t7, rfl, rfl, g9⟩, ⟨va_Zof (hts _ (by decide +kernel)) (hts _ (by decide +kernel)) wc hA, va_Zof (hts _ (by decide +kernel)) (hts _ (by decide +kernel)) hv hA, ho⟩, ⟨va_Nw.of rfl (hts _ (by decide +kernel)), va_Nw.of rfl (hts _ (by decide +kernel)), va_Nw.of rfl (hts _ (by decide +kernel)), va_Nw.of rfl (hts _ (by decide +kernel))⟩, va_AO.of w4, w5⟩, rfl, rfl, rfl, rfl⟩
  · have hl : c < 12 := (List.getElem?_eq_some_iff.mp hq).1
    cases (cl_at hl).symm.trans hq
    exact hfc c hl
  · match k, hq with
    | 0, hq => cases hq; exact ⟨a0, r0⟩
    | 1, hq => cases hq; exact ⟨a1, r1⟩
    | 2, hq => cases hq; exact ⟨a2, r2⟩
    | 3, hq => cases hq; exact ⟨a3, r3⟩
    | 4, hq => cases hq; exact ⟨fun n z => ⟨(fun k h => by cases h), k4, d3, p4, d4⟩, k4, p4, d3, d4, d1, d5⟩
    | 5, hq => cases hq; exact ⟨fun n z => ⟨(fun k h => by cases h), k5, e3, p5, e4⟩, e5⟩
    | k + 6, hq => cases hq
