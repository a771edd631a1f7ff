/-! rows: arrays that are made, arraycopy (written by wip/tools/gensim5.py) -/
theorem TG_arr : Cond.arrayClass .int ∈ TG ∧ Cond.arrayClass .long ∈ TG ∧ Cond.arrayClass .byte ∈ TG ∧ Cond.arrayClass .short ∈ TG := by
  refine ⟨TG_of (List.mem_of_getElem? (i := 168) (by decide +kernel)) rfl, TG_of (List.mem_of_getElem? (i := 167) (by decide +kernel)) rfl, TG_of (List.mem_of_getElem? (i := 275) (by decide +kernel)) rfl, TG_of (List.mem_of_getElem? (i := 276) (by decide +kernel)) rfl⟩
theorem TG_kl : Cond.classLink "BestMenDuel" 45 "BestMenDuel$Dawn" ∈ TG ∧ Cond.classLink "BestMenDuel$Trays" 11 "[[J" ∈ TG := by
  refine ⟨TG_of (List.mem_of_getElem? (i := 315) (by decide +kernel)) rfl, TG_of (List.mem_of_getElem? (i := 155) (by decide +kernel)) rfl⟩
theorem s_newarray {G : GG} {p : Program} {l : Launch} {e : Env} {R : Room} {s : State} {m : MethodId} {args : Array Value} {below : List Frame} {meth : Method} {c : Code} {Q : State → Prop} {y pc cells slots : Nat} {L : Lv} {r : List AV} {S : Sh} {h : Mem} {n : Int} {at_ : ArrayType} {K : Nat} (hK : K = atK at_) (hK2 : K < 24) (hn : 0 ≤ n ∧ n ≤ 100000) (hz : s.heap.size + cells = gz G + (S.length - 1)) (hcl : cells + 1 ≤ R.cells) (hsl : slots + n.toNat ≤ R.slots) (hd : decode (mdN y).2.1 pc = .ok (.newarray at_, 2)) (F : XFC G p s m args meth c y R)
    (k : WC G p l e R s m args below meth c Q y (pc + 2) L (.inr (.inr (S.length : Int)) :: r) (S ++ [(K, n.toNat)]) h (cells + 1) (slots + n.toNat)) : WC G p l e R s m args below meth c Q y pc L (.inl n :: r) S h cells slots := by
  intro ls H locs ⟨hR, hS, hL, hV⟩
  obtain ⟨hx, hb, hml, hown, hts, hC, hini, hfr, hlo⟩ := F
  obtain ⟨hva, hU⟩ := List.forall_mem_cons.mp hV
  have h0 : 0 < S.length := (List.getElem?_eq_some_iff.mp hR.1.1).1
  refine W_size fun hs => ?_
  have hsz := Rel_size hC hR hS hz hs
  have hlen : n.toNat ≤ 100000 := by omega
  have fin : ∀ (H1 : Heap) (ty : FieldType) (cA : ClassId), (20 ≤ K ∧ K ≤ 23) → newarray.typeOf at_ = ty → gC G K = cA → cellG G (K, n.toNat) (fun _ => 0) = .inl (cA, n.toNat, if K = 21 then .inr (.inl fun _ => 0) else .inl fun _ => 0) → H1[gz G + (S.length - 1)]? = some (vp_cell cA (n.toNat, if K = 21 then .inr (.inl fun _ => 0) else .inl fun _ => 0)) → H1.size = gz G + (S.length - 1) + 1 → (∀ q, q < gz G + (S.length - 1) → H1[q]? = H[q]?) → W p l e R s m args below meth c H1 locs (cells + 1) (slots + n.toNat) Q (F0 m (pc + 2) ls (.ref (gz G + (S.length - 1)) :: r.map (cv G))) := by
    intro H1 ty cA hKr _ _ hcell e1 z1 o1
    have hR1 : Rel G (S ++ [(K, n.toNat)]) h H1 := by
      refine Rel_push hR (Or.inr ⟨hKr.1, by show K ≤ 25; omega, hlen⟩) hsz (by rw [hsz]; exact o1) ?_
      rw [hcell]
      exact e1
    have h2 := k ls H1 locs ⟨hR1, va_S_push hS (by omega) (by rw [hsz]; exact o1), LR_mono (by rw [List.length_append]; omega) hL, List.forall_mem_cons.mpr ⟨⟨by rw [List.length_append]; simp; omega, fun z => by omega⟩, fun v hv => okV_mono (by rw [List.length_append]; omega) (hU v hv)⟩⟩
    rw [List.map_cons, cv_ref (by omega)] at h2
    exact h2
  have hn0 : ¬ Int32.ofInt n < 0 := by rw [ofI_lt0 hva]; omega
  subst hK
  cases at_ with
  | int =>
    refine va_newaK (atype := .int) hx hb (hts _ TG_arr.1) rfl hd rfl hn0 (ofI_nat hva) (by show n.toNat * 4 ≤ _; omega) hcl hsl hsz fun H1 cA e1 z1 o1 _ hNm => ?_
    have e : gC G 20 = cA := Option.some.inj ((hC.1.2 0 _ rfl).2.symm.trans hNm)
    exact fin H1 .int cA ⟨by decide, by decide⟩ rfl e (by rw [← e]; rfl) (by rw [e1]; exact congrArg some (vp_cell_i cA n.toNat fun _ => 0).symm) z1 o1
  | long =>
    refine va_newaK (atype := .long) hx hb (hts _ TG_arr.2.1) rfl hd rfl hn0 (ofI_nat hva) (by show n.toNat * 8 ≤ _; omega) hcl hsl hsz fun H1 cA e1 z1 o1 _ hNm => ?_
    have e : gC G 21 = cA := Option.some.inj ((hC.1.2 1 _ rfl).2.symm.trans hNm)
    exact fin H1 .long cA ⟨by decide, by decide⟩ rfl e (by rw [← e]; rfl) (by rw [e1]; exact congrArg some (vp_cell_l cA n.toNat fun _ => 0).symm) z1 o1
  | byte =>
    refine va_newaK (atype := .byte) hx hb (hts _ TG_arr.2.2.1) rfl hd rfl hn0 (ofI_nat hva) (by show n.toNat * 1 ≤ _; omega) hcl hsl hsz fun H1 cA e1 z1 o1 _ hNm => ?_
    have e : gC G 22 = cA := Option.some.inj ((hC.1.2 2 _ rfl).2.symm.trans hNm)
    exact fin H1 .byte cA ⟨by decide, by decide⟩ rfl e (by rw [← e]; rfl) (by rw [e1]; exact congrArg some (vp_cell_i cA n.toNat fun _ => 0).symm) z1 o1
  | short =>
    refine va_newaK (atype := .short) hx hb (hts _ TG_arr.2.2.2) rfl hd rfl hn0 (ofI_nat hva) (by show n.toNat * 2 ≤ _; omega) hcl hsl hsz fun H1 cA e1 z1 o1 _ hNm => ?_
    have e : gC G 23 = cA := Option.some.inj ((hC.1.2 3 _ rfl).2.symm.trans hNm)
    exact fin H1 .short cA ⟨by decide, by decide⟩ rfl e (by rw [← e]; rfl) (by rw [e1]; exact congrArg some (vp_cell_i cA n.toNat fun _ => 0).symm) z1 o1
  | boolean => exact absurd hK2 (by decide)
  | char => exact absurd hK2 (by decide)
  | float => exact absurd hK2 (by decide)
  | double => exact absurd hK2 (by decide)
theorem s_anewarray {G : GG} {p : Program} {l : Launch} {e : Env} {R : Room} {s : State} {m : MethodId} {args : Array Value} {below : List Frame} {meth : Method} {c : Code} {Q : State → Prop} {y pc cells slots : Nat} {L : Lv} {r : List AV} {S : Sh} {h : Mem} {n : Int} (ho : (mdN y).1.cls = "BestMenDuel") (hn : 0 ≤ n ∧ n ≤ 100000) (hz : s.heap.size + cells = gz G + (S.length - 1)) (hcl : cells + 1 ≤ R.cells) (hsl : slots + n.toNat ≤ R.slots) (hd : decode (mdN y).2.1 pc = .ok (.anewarray 45, 3)) (F : XFC G p s m args meth c y R)
    (k : WC G p l e R s m args below meth c Q y (pc + 3) L (.inr (.inr (S.length : Int)) :: r) (S ++ [(24, n.toNat)]) h (cells + 1) (slots + n.toNat)) : WC G p l e R s m args below meth c Q y pc L (.inl n :: r) S h cells slots := by
  intro ls H locs ⟨hR, hS, hL, hV⟩
  obtain ⟨hx, hb, hml, hown, hts, hC, hini, hfr, hlo⟩ := F
  obtain ⟨hva, hU⟩ := List.forall_mem_cons.mp hV
  have h0 : 0 < S.length := (List.getElem?_eq_some_iff.mp hR.1.1).1
  refine W_size fun hs => ?_
  have hsz := Rel_size hC hR hS hz hs
  have hn0 : ¬ Int32.ofInt n < 0 := by rw [ofI_lt0 hva]; omega
  rw [ho] at hown
  have hcl' : (cells + 1 ≤ R.cells) := hcl
  have hAO : va_AO "BestMenDuel$Dawn" s := hC.2.2.2.2.2.2.2.2.2.2.2.1
  obtain ⟨kA', comp', f1', f2', f3', f4'⟩ := (hC.1.2 4 _ rfl).2
  refine W.anew hx hb hown (hts _ TG_kl.1) (va_AO.use hAO) rfl hd rfl hn0 (by rw [ofI_nat hva]; omega) hcl (by rw [ofI_nat hva]; exact hsl) fun cA kA comp f1 f2 f3 f4 => ?_
  have e : gC G 24 = cA := Option.some.inj (f4'.symm.trans f1)
  rw [ofI_nat hva]
  generalize hH1 : H.push ({ cls := cA, slots := Array.replicate n.toNat .null, vm := .none } : Cell) = H1
  have z1 : H1.size = H.size + 1 := by rw [← hH1, Array.size_push]
  have e1 : H1[H.size]? = some (arrV cA n.toNat (fun _ => .null)) := by rw [← hH1, Array.getElem?_push_size, ← arrV_new]
  have o1 : ∀ q : Nat, q < H.size → H1[q]? = H[q]? := fun q hq => by rw [← hH1, Array.getElem?_push, if_neg (Nat.ne_of_lt hq)]
  have hR1 : Rel G (S ++ [(24, n.toNat)]) h H1 := by
    refine Rel_push hR (Or.inr ⟨by show 20 ≤ 24; omega, by show 24 ≤ 25; omega, by show n.toNat ≤ 100000; omega⟩) hsz o1 ?_
    rw [cell_q (by decide), e]
    show H1[gz G + (S.length - 1)]? = some (vp_cell _ _)
    rw [vp_cell_q, ← hsz]
    exact e1
  have h2 := k ls H1 locs ⟨hR1, va_S_push hS (by omega) o1, LR_mono (by rw [List.length_append]; omega) hL, List.forall_mem_cons.mpr ⟨⟨by rw [List.length_append]; simp; omega, fun z => by omega⟩, fun v hv => okV_mono (by rw [List.length_append]; omega) (hU v hv)⟩⟩
  rw [List.map_cons, cv_ref (by omega)] at h2
  rw [hsz]
  exact h2
theorem am_copyt {p : Program} {l : Launch} {e : Env} {R : Room} {s : State} {m : MethodId} {args : Array Value} {below : List Frame} {meth : Method} {c : Code} {H : Heap} {locs : List Loc} {cells slots : Nat} {Q : State → Prop} {cc : ByteArray} {pc : Nat} {ls : Array Slot} {rest : List Value} {D : va_G} {cl : List vw_C} {A : Nat → Prop} {a : Nat} {tys : List (ClassId × FieldType)} {ws : va_W}
    (hexec : p.tables.exec = Jvm.exec) (hb : c.code = cc) (hml : c.maxLocals = ls.size) {own : String} {index : Nat} (hown : s.vm.findClass own = some m.cls) (hlink : (Cond.methodLink own index arraycopyName).before args s = true) (hnat : (Cond.native arraycopyName).before args s = true) (hstat : (Cond.static arraycopyName).before args s = true) (hini : (Cond.initialized "java/lang/System").before args s = true)
    (hK : va_K D cl tys s) (hP : va_P D cl ws H) (hD : va_D A ws) (hS : va_S A s.heap H locs) {b0 n0 : Nat} {f : Nat → Int32} (hX : va_T .int b0 n0 (fun j => .int (f j)) A s s.heap) (q1 t1 : Nat) {c1 : ClassId} {n1 : Nat} {g : Nat → Int32} (ha1 : ws[q1]? = some (a, .inl (c1, n1, .inl g))) (ht1 : tys[t1]? = some (c1, .int))
    {sp dp n : Int32} (h1 : ¬ sp < 0) (h2 : ¬ dp < 0) (h3 : ¬ n < 0) (h4 : sp.toNatClampNeg + n.toNatClampNeg ≤ n0) (h5 : dp.toNatClampNeg + n.toNatClampNeg ≤ n1)
    (hframes : 1 ≤ R.frames) (hlocals : (rest.map fun v => v.category).sum + (nativeFrameWords "java/lang/System" "arraycopy" 5 + 11) ≤ R.locals) (hdg : decode cc pc = .ok (.invokestatic index, 3))
    (kk : ∀ (H1 : Heap) (locs1 : List Loc), va_P D cl (ws.set q1 (a, .inl (c1, n1, .inl (va_cpy f g sp.toNatClampNeg dp.toNatClampNeg n.toNatClampNeg)))) H1 → va_S A s.heap H1 locs1 → W p l e R s m args below meth c H1 locs1 cells slots Q (F0 m (pc + 3) ls rest)) : W p l e R s m args below meth c H locs cells slots Q (F0 m pc ls (.int n :: .int dp :: .ref a :: .int sp :: .ref b0 :: rest)) := by
  have nn : ∀ z : Int32, ¬ z < 0 → z.toInt = (z.toNatClampNeg : Int) := by
    intro z hz
    have hz0 : (0 : Int) ≤ z.toInt := by
      have := Int32.not_lt.mp hz
      simpa using Int32.le_iff_toInt_le.mp this
    show z.toInt = ((z.toInt.toNat : Nat) : Int)
    omega
  intro T hT X
  obtain ⟨scr, hs1, hs2, hs3, hs4, -, hs5, hs7⟩ := hX
  have hc0 : H[b0]? = some scr := by rw [hS.2.1 b0 (Array.getElem?_eq_some_iff.mp hs1).1 hs7]; exact hs1
  have hc1 : H[a]? = some (vp_cell c1 (n1, .inl g)) := hP q1 _ ha1
  obtain ⟨hs6, k0, hk0, cm0, hkk0⟩ := hs2
  obtain ⟨-, k1, hk1, cm1, hkk1⟩ := (hK.2 t1 _ ht1).1 n1 (fun j => .int (g j))
  obtain ⟨vm', X', step⟩ := X.arraycopy hexec hown hlink hnat hstat hini (src := b0) (dst := a) (cs := scr) (cd := vp_cell c1 (n1, .inl g)) (srcPos := sp) (destPos := dp) (n := n) (by rw [hT]; exact hc0) (by rw [hT]; exact hc1)
    hs6 (fun _ h => by cases h) hs3 (fun h => by cases h) hk0 hk1 hkk0 hkk1 (by simp [refKind]) h1 h2 h3
    (by rw [nn sp h1, nn n h3]; omega)
    (by rw [nn dp h2, nn n h3]; show ¬ _ > ((arrV c1 n1 (fun j => .int (g j))).slots.size : Int); rw [arrV_size]; omega)
    (fun vm₁ _ i hi => by
      have e : scr.slots.getD (sp.toNatClampNeg + i) .null = .int (f (sp.toNatClampNeg + i)) := by
        rw [Array.getD_eq_getD_getElem?, hs5 _ (by omega)]
        rfl
      refine ⟨?_, ?_⟩
      · rw [e]
        rfl
      · rw [e]
        exact trivial)
    (g := F0 m pc ls (.int n :: .int dp :: .ref a :: .int sp :: .ref b0 :: rest)) rfl (by rw [hml]) (rest := rest) rfl (by rw [hb]; exact hdg) hframes (by show 2 * 0 + _ + _ ≤ _; omega)
  have e1 : copied scr (vp_cell c1 (n1, .inl g)) sp dp n = vp_cell c1 (n1, .inl (va_cpy f g sp.toNatClampNeg dp.toNatClampNeg n.toNatClampNeg)) := va_copiedX (fun z => .int z) scr c1 f g hs5 h4
  rw [e1] at X' step
  have hl : a < H.size := (Array.getElem?_eq_some_iff.mp hc1).1
  have hheap : ((T.setVm vm').setCell a (vp_cell c1 (n1, .inl (va_cpy f g sp.toNatClampNeg dp.toNatClampNeg n.toNatClampNeg)))).heap = H.setIfInBounds a (vp_cell c1 (n1, .inl (va_cpy f g sp.toNatClampNeg dp.toNatClampNeg n.toNatClampNeg))) := by rw [← hT]; rfl
  have oq : ∀ q : Nat, q ≠ a → (H.setIfInBounds a (vp_cell c1 (n1, .inl (va_cpy f g sp.toNatClampNeg dp.toNatClampNeg n.toNatClampNeg))))[q]? = H[q]? := fun q hq => by simp [Array.getElem?_setIfInBounds, Ne.symm hq]
  obtain ⟨t, a1, b1⟩ := kk _ _ (hP.set hD ha1 (show (H.setIfInBounds a _)[a]? = some _ by simp [Array.getElem?_setIfInBounds, hl]) oq) ⟨by simp; exact hS.1, fun q g1 g2 => by
      rw [oq q (fun e => g2 (by rw [e]; exact hD.2 q1 _ ha1))]
      exact hS.2.1 q g1 g2, fun q hq => by
      rcases List.mem_append.mp hq with h | h
      · exact hS.2.2 q h
      · obtain ⟨z, -, hz⟩ := List.mem_map.mp h
        rw [← hz]
        exact hD.2 q1 _ ha1⟩ _ hheap X'
  exact ⟨t, step t a1, b1⟩
theorem s_arraycopy {G : GG} {p : Program} {l : Launch} {e : Env} {R : Room} {s : State} {m : MethodId} {args : Array Value} {below : List Frame} {meth : Method} {c : Code} {Q : State → Prop} {y pc cells slots : Nat} {L : Lv} {r : List AV} {S : Sh} {h : Mem} {a q p0 d n : Int} {h2 : Mem} {ix : Nat} (hv : acp (gX G) S h a p0 q d n = some h2) (hcat : catS r ≤ 8) (hlink : Cond.methodLink (mdN y).1.cls ix arraycopyName ∈ TG) (hd : decode (mdN y).2.1 pc = .ok (.invokestatic ix, 3)) (F : XFC G p s m args meth c y R)
    (k : WC G p l e R s m args below meth c Q y (pc + 3) L r S h2 cells slots) : WC G p l e R s m args below meth c Q y pc L (.inl n :: .inl d :: .inr (.inr q) :: .inl p0 :: .inr (.inr a) :: r) S h cells slots := by
  intro ls H locs ⟨hR, hS, hL, hV⟩
  obtain ⟨hx, hb, hml, hown, hts, hC, hini, hfr, hlo⟩ := F
  obtain ⟨hvn, hvd, hvq, hvp, hva, hU⟩ : xkI n ∧ xkI d ∧ okV S (.inr (.inr q)) ∧ xkI p0 ∧ okV S (.inr (.inr a)) ∧ ∀ v ∈ r, okV S v := by
    have h1 := List.forall_mem_cons.mp hV
    have h2 := List.forall_mem_cons.mp h1.2
    have h3 := List.forall_mem_cons.mp h2.2
    have h4 := List.forall_mem_cons.mp h3.2
    have h5 := List.forall_mem_cons.mp h4.2
    exact ⟨h1.1, h2.1, h3.1, h4.1, h5.1, h5.2⟩
  have hlocals : ((r.map (cv G)).map fun v => v.category).sum + (nativeFrameWords "java/lang/System" "arraycopy" 5 + 11) ≤ R.locals := by
    rw [cat_sum (CX_ro hC) r hU]
    have : nativeFrameWords "java/lang/System" "arraycopy" 5 ≤ 40 := by decide +kernel
    omega
  have hsz : c.maxLocals = ls.size := by rw [hml]; exact hL.2.1.1.symm
  unfold acp at hv
  split at hv
  · next ea =>
    subst ea
    split at hv
    · next hc =>
      cases hv
      obtain ⟨k1, k2, k3, k4, k5, k6⟩ := hc
      obtain ⟨m1, hq, hm1⟩ := kd_get k1 (by decide)
      obtain ⟨hqp, hqp'⟩ := kd_pos hR.1 hq (by decide)
      rw [hm1] at k6
      have hw := ws_at (G := G) (h := h) hqp' hq
      rw [cell_i (by decide)] at hw
      obtain ⟨t5, a5, -, a5'⟩ := hC.2.2.2.2.2.2.1
      simp only [List.map_cons]
      rw [cv_ref hqp, cv_ro (by decide), a5]
      have n1 : ¬ Int32.ofInt p0 < 0 := by rw [ofI_lt0 hvp]; omega
      have n2 : ¬ Int32.ofInt d < 0 := by rw [ofI_lt0 hvd]; omega
      have n3 : ¬ Int32.ofInt n < 0 := by rw [ofI_lt0 hvn]; omega
      refine am_copyt hx hb hsz hown (hts _ hlink) (hts _ TG_oi.2.2.1) (hts _ TG_oi.2.2.2.1) (hts _ TG_oi.2.2.2.2) hC.1 hR.2.2 (ws_D G S h) hS a5' (q.toNat - 1) 0 hw rfl n1 n2 n3 (by rw [ofI_nat hvp, ofI_nat hvn]; omega) (by rw [ofI_nat hvd, ofI_nat hvn]; omega) hfr hlocals hd fun H1 locs1 hP1 hS1 => ?_
      rw [ofI_nat hvp, ofI_nat hvd, ofI_nat hvn, ws_up (h' := cpy h q.toNat (am_ro (gX G) (-5)).2 p0.toNat d.toNat n.toNat) hqp' hq (fun z hz => cpy_ne h q.toNat _ _ _ _ hz) ?_] at hP1
      · refine k ls H1 locs1 ⟨⟨hR.1, okM_cpy hR.2.1 hq (fun j hj _ => ?_), hP1⟩, hS1, hL, hU⟩
        show xkI (([6, 0, 2, 2] : List Int).getD (p0.toNat + j) 0)
        have hlt : p0.toNat + j < 4 := by omega
        generalize p0.toNat + j = z at hlt
        unfold xkI
        match z, hlt with
        | 0, _ => decide
        | 1, _ => decide
        | 2, _ => decide
        | 3, _ => decide
      · rw [cell_i (by decide), cpy_at]
        refine congrArg (fun f => (Sum.inl (gC G 20, m1, Sum.inl f) : va_E)) (funext fun j => ?_)
        show va_cpy _ _ _ _ _ j = Int32.ofInt (if d.toNat ≤ j ∧ j < d.toNat + n.toNat then ([6, 0, 2, 2] : List Int).getD (p0.toNat + (j - d.toNat)) 0 else h q.toNat j)
        unfold va_cpy
        split <;> rfl
    · cases hv
  · split at hv
    · next hc =>
      cases hv
      obtain ⟨k0, k1, k2, k3, k4, k5, k6⟩ := hc
      obtain ⟨m0, hqa, hm0⟩ := kd_get (S := S) (r := a) rfl (by omega)
      obtain ⟨hap, hap'⟩ := kd_pos hR.1 hqa (by omega)
      obtain ⟨m1, hq, hm1⟩ := kd_get (S := S) (r := q) rfl (by omega)
      obtain ⟨hqp, hqp'⟩ := kd_pos hR.1 hq (by omega)
      rw [hm1] at k6
      rw [hm0] at k5
      have hwa := ws_at (G := G) (h := h) hap' hqa
      have hw := ws_at (G := G) (h := h) hqp' hq
      simp only [List.map_cons]
      rw [cv_ref hqp, cv_ref hap]
      have n1 : ¬ Int32.ofInt p0 < 0 := by rw [ofI_lt0 hvp]; omega
      have n2 : ¬ Int32.ofInt d < 0 := by rw [ofI_lt0 hvd]; omega
      have n3 : ¬ Int32.ofInt n < 0 := by rw [ofI_lt0 hvn]; omega
      rw [k1] at hq hw
      have hok : ∀ j, j < n.toNat → d.toNat + j < m1 → xkT S.length (tgK (kd S a) (d.toNat + j)) (h a.toNat (p0.toNat + j)) := by
        intro j hj _
        have := hR.2.1.1 a.toNat _ hqa (p0.toNat + j) (by show p0.toNat + j < m0; omega)
        rcases k0 with e | e <;> (rw [e] at this ⊢; exact this)
      rcases k0 with e | e
      · rw [e] at hwa hw hq hok
        rw [cell_i (by decide)] at hwa hw
        refine va_copyi hx hb hsz hown (hts _ hlink) (hts _ TG_oi.2.2.1) (hts _ TG_oi.2.2.2.1) (hts _ TG_oi.2.2.2.2) hC.1 hR.2.2 (ws_D G S h) hS (a.toNat - 1) (q.toNat - 1) 0 0 hwa hw (ty := .int) rfl rfl rfl n1 n2 n3 (by rw [ofI_nat hvp, ofI_nat hvn]; omega) (by rw [ofI_nat hvd, ofI_nat hvn]; omega) (fun _ _ => rfl) hfr hlocals hd fun H1 locs1 hP1 _ hS1 => ?_
        rw [ofI_nat hvp, ofI_nat hvd, ofI_nat hvn, ws_up (h' := cpy h q.toNat (h a.toNat) p0.toNat d.toNat n.toNat) hqp' hq (fun z hz => cpy_ne h q.toNat _ _ _ _ hz) ?_] at hP1
        · exact k ls H1 locs1 ⟨⟨hR.1, okM_cpy hR.2.1 hq hok, hP1⟩, hS1, hL, hU⟩
        · rw [cell_i (by decide), cpy_at]
          refine congrArg (fun f => (Sum.inl (gC G 20, m1, Sum.inl f) : va_E)) (funext fun j => ?_)
          unfold va_cpy
          dsimp only
          split <;> rfl
      · rw [e] at hwa hw hq hok
        rw [cell_l] at hwa hw
        refine va_copyl hx hb hsz hown (hts _ hlink) (hts _ TG_oi.2.2.1) (hts _ TG_oi.2.2.2.1) (hts _ TG_oi.2.2.2.2) hC.1 hR.2.2 (ws_D G S h) hS (a.toNat - 1) (q.toNat - 1) 1 1 hwa hw (ty := .long) rfl rfl rfl n1 n2 n3 (by rw [ofI_nat hvp, ofI_nat hvn]; omega) (by rw [ofI_nat hvd, ofI_nat hvn]; omega) (fun _ _ => rfl) hfr hlocals hd fun H1 locs1 hP1 _ hS1 => ?_
        rw [ofI_nat hvp, ofI_nat hvd, ofI_nat hvn, ws_up (h' := cpy h q.toNat (h a.toNat) p0.toNat d.toNat n.toNat) hqp' hq (fun z hz => cpy_ne h q.toNat _ _ _ _ hz) ?_] at hP1
        · exact k ls H1 locs1 ⟨⟨hR.1, okM_cpy hR.2.1 hq hok, hP1⟩, hS1, hL, hU⟩
        · rw [cell_l, cpy_at]
          refine congrArg (fun f => (Sum.inl (gC G 21, m1, Sum.inr (Sum.inl f)) : va_E)) (funext fun j => ?_)
          unfold va_cpy
          dsimp only
          split <;> rfl
    · cases hv
