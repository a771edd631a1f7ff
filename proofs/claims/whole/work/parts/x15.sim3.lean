/-! rows: fields and arrays (written by wip/tools/gensim3.py) -/
theorem mk_ok {S : Sh} {t : Nat} {x : Int} (h : xkT S.length t x) (ht : t ≤ 3) : okV S (mkV t x) ∧ ∀ G : GG, fV (gz G) t x = cv G (mkV t x) := by
  match t, ht with
  | 0, _ => exact ⟨h, fun _ => rfl⟩
  | 1, _ => exact ⟨h, fun _ => rfl⟩
  | 2, _ => exact ⟨⟨h.2, fun z => absurd h.1 (by omega)⟩, fun G => rf_cv h.1⟩
  | 3, _ =>
    refine ⟨?_, fun _ => rfl⟩
    rcases h with rfl | rfl <;> exact ⟨by decide, by decide⟩
theorem un_ok {S : Sh} {t : Nat} {v : AV} {x : Int} (h : unV t v = some x) (hv : okV S v) : xkT S.length t x ∧ ∀ G : GG, cv G v = fV (gz G) t x := by
  unfold unV at h
  split at h
  · cases h; exact ⟨hv, fun _ => rfl⟩
  · cases h; exact ⟨hv, fun _ => rfl⟩
  · split at h
    · next z => cases h; exact ⟨⟨z, hv.1⟩, fun G => (rf_cv z).symm⟩
    · cases h
  · split at h
    · next z => cases h; exact ⟨z, fun _ => rfl⟩
    · cases h
  · cases h
theorem tag_le (t : FieldType) : tagF t ≤ 3 := by
  unfold tagF
  split <;> omega
theorem nf_ok {G : GG} {S : Sh} {ty : FieldType} {v : AV} {x : Int} (hf : isFT ty = true) (h : unV (tagF ty) v = some x) (hv : okV S v) : narrow ty (cv G v) = cv G v ∧ fits ty (cv G v) = true := by
  have e := (un_ok h hv).2 G
  rw [e]
  cases ty with
  | int => exact ⟨rfl, rfl⟩
  | long => exact ⟨rfl, rfl⟩
  | boolean =>
    have h1 := (un_ok h hv).1
    rcases h1 with rfl | rfl <;> exact ⟨rfl, rfl⟩
  | object C =>
    show narrow (.object C) (va_rf _) = va_rf _ ∧ fits (.object C) (va_rf _) = true
    cases cvR (gz G) x <;> exact ⟨rfl, rfl⟩
  | array t =>
    show narrow (.array t) (va_rf _) = va_rf _ ∧ fits (.array t) (va_rf _) = true
    cases cvR (gz G) x <;> exact ⟨rfl, rfl⟩
  | byte => cases hf
  | char => cases hf
  | double => cases hf
  | float => cases hf
  | short => cases hf
theorem obj_n {S : Sh} {k ci n : Nat} (hS : xkS S) (hk : 0 < k) (h : S[k]? = some (ci, n)) (hci : ci < 12) : n = (clN ci).2.2 := by
  rcases hS.2 k (ci, n) hk h with ⟨-, h1⟩ | ⟨h1, -⟩
  · dsimp only at h1
    rw [cl_at hci] at h1
    exact (Option.some.inj h1).symm
  · dsimp only at h1
    omega
theorem tgK_o {ci j : Nat} (h : ci < 12) : tgK ci j = tagF (tyC ci j) := by
  unfold tgK
  rw [if_pos h]
theorem arr_n {S : Sh} {k K n : Nat} (hS : xkS S) (hk : 0 < k) (h : S[k]? = some (K, n)) (hK : 20 ≤ K) : n ≤ 100000 := by
  rcases hS.2 k (K, n) hk h with ⟨h1, -⟩ | ⟨-, -, h1⟩
  · dsimp only at h1; omega
  · exact h1
theorem ald_get {S : Sh} {h : Mem} {K : Nat} {a b x : Int} (hS : xkS S) (hK : K ≠ 99) (hv : ald S h K a b = some x) : ∃ n, S[a.toNat]? = some (K, n) ∧ 0 < a ∧ 0 < a.toNat ∧ 0 ≤ b ∧ b < (n : Int) ∧ x = h a.toNat b.toNat := by
  unfold ald at hv
  split at hv
  · next z =>
    obtain ⟨z1, z2, z3⟩ := z
    obtain ⟨n, hq, hn⟩ := kd_get z1 hK
    obtain ⟨h1, h2⟩ := kd_pos hS hq hK
    rw [hn] at z3
    cases hv
    exact ⟨n, hq, h1, h2, z2, z3, rfl⟩
  · cases hv
theorem ofN_I (n : Nat) : Int32.ofNat n = Int32.ofInt (n : Int) := rfl
theorem ast_get {S : Sh} {h h' : Mem} {K : Nat} {a b x : Int} (hS : xkS S) (hK : K ≠ 99) (hv : ast S h K a b x = some h') : ∃ n, S[a.toNat]? = some (K, n) ∧ 0 < a ∧ 0 < a.toNat ∧ 0 ≤ b ∧ b < (n : Int) ∧ h' = up h a.toNat b.toNat x := by
  unfold ast at hv
  split at hv
  · next z =>
    obtain ⟨z1, z2, z3⟩ := z
    obtain ⟨n, hq, hn⟩ := kd_get z1 hK
    obtain ⟨h1, h2⟩ := kd_pos hS hq hK
    rw [hn] at z3
    cases hv
    exact ⟨n, hq, h1, h2, z2, z3, rfl⟩
  · cases hv
theorem s_getf {G : GG} {p : Program} {l : Launch} {e : Env} {R : Room} {s : State} {m : MethodId} {args : Array Value} {below : List Frame} {meth : Method} {c : Code} {Q : State → Prop} {y pc cells slots : Nat} {L : Lv} {r : List AV} {S : Sh} {h : Mem} {a : Int} {ci sl ix : Nat} (hci : ci < 12) (hk : kd S a = ci) (hsl : sl < (clN ci).2.2) (hlink : Cond.fieldLink (mdN y).1.cls ix ((clN ci).2.1 sl).1 ((clN ci).2.1 sl).2.1 ((clN ci).2.1 sl).2.2.1 ∈ TG) (hd : decode (mdN y).2.1 pc = .ok (.getfield ix, 3)) (F : XFC G p s m args meth c y R)
    (k : WC G p l e R s m args below meth c Q y (pc + 3) L (mkV (tagF (tyC ci sl)) (h a.toNat sl) :: r) S h cells slots) : WC G p l e R s m args below meth c Q y pc L (.inr (.inr a) :: r) S h cells slots := by
  intro ls H locs ⟨hR, hS, hL, hV⟩
  obtain ⟨hx, hb, hml, hown, hts, hC, hini, hfr, hlo⟩ := F
  obtain ⟨hva, hV⟩ := List.forall_mem_cons.mp hV
  obtain ⟨n, hq, -⟩ := kd_get hk (by omega)
  obtain ⟨ha, ha'⟩ := kd_pos hR.1 hq (by omega)
  have hn := obj_n hR.1 ha' hq hci
  have hw := ws_at (G := G) (h := h) ha' hq
  rw [cell_o hci] at hw
  have ht := hR.2.1.1 a.toNat (ci, n) hq sl (by rw [hn]; exact hsl)
  rw [tgK_o hci] at ht
  have hm := mk_ok ht (tag_le _)
  have h2 := k ls H locs ⟨hR, hS, hL, List.forall_mem_cons.mpr ⟨hm.1, hV⟩⟩
  rw [List.map_cons, ← hm.2 G] at h2
  rw [List.map_cons, cv_ref ha]
  exact va_get (D := gD G) (ci := ci) (C := (clN ci).1) (T := (clN ci).2.1) (N := (clN ci).2.2) hx hb hts (cl_in hci) hown hC.1 hR.2.2 (a.toNat - 1) hw (cl_at hci) sl hsl (hts _ hlink) (fun _ h9 => h9) (by rw [List.getElem?_map, List.getElem?_range (by rw [hn]; exact hsl)]; rfl) hd h2
theorem s_putf {G : GG} {p : Program} {l : Launch} {e : Env} {R : Room} {s : State} {m : MethodId} {args : Array Value} {below : List Frame} {meth : Method} {c : Code} {Q : State → Prop} {y pc cells slots : Nat} {L : Lv} {r : List AV} {S : Sh} {h : Mem} {a x : Int} {v : AV} {ci sl ix : Nat} (hci : ci < 12) (hk : kd S a = ci) (hsl : sl < (clN ci).2.2) (hlink : Cond.fieldLink (mdN y).1.cls ix ((clN ci).2.1 sl).1 ((clN ci).2.1 sl).2.1 ((clN ci).2.1 sl).2.2.1 ∈ TG) (hv : unV (tagF (tyC ci sl)) v = some x) (hfin : ((clN ci).2.1 sl).2.2.2 = false ∨ ((mdN y).1.name = "<init>" ∧ (mdN y).1.cls = (clN ci).1)) (hd : decode (mdN y).2.1 pc = .ok (.putfield ix, 3)) (F : XFC G p s m args meth c y R)
    (k : WC G p l e R s m args below meth c Q y (pc + 3) L r S (up h a.toNat sl x) cells slots) : WC G p l e R s m args below meth c Q y pc L (v :: .inr (.inr a) :: r) S h cells slots := by
  intro ls H locs ⟨hR, hS, hL, hV⟩
  obtain ⟨hx, hb, hml, hown, hts, hC, hini, hfr, hlo⟩ := F
  obtain ⟨hvv, hva, hV⟩ := (List.forall_mem_cons.mp hV).imp_right List.forall_mem_cons.mp
  obtain ⟨n, hq, -⟩ := kd_get hk (by omega)
  obtain ⟨ha, ha'⟩ := kd_pos hR.1 hq (by omega)
  have hn := obj_n hR.1 ha' hq hci
  have hw := ws_at (G := G) (h := h) ha' hq
  rw [cell_o hci] at hw
  have hu := un_ok hv hvv
  have hnf := nf_ok (G := G) (cl_ft hci sl hsl) hv hvv
  rw [List.map_cons, List.map_cons, cv_ref ha]
  have hset : (.inr (ci, (((List.range n).map fun j => fV (gz G) (tagF (tyC ci j)) (h a.toNat j)).set sl (cv G v))) : va_E) = cellG G (ci, n) (up h a.toNat sl x a.toNat) := by
    rw [cell_o hci]
    congr 2
    apply List.ext_getElem?
    intro i
    rw [up_at]
    by_cases e : i = sl
    · subst e
      rw [List.getElem?_set_self (by rw [List.length_map, List.length_range, hn]; exact hsl), List.getElem?_map, List.getElem?_range (by rw [hn]; exact hsl), hu.2 G]
      simp
    · rw [List.getElem?_set_ne (fun z => e z.symm), List.getElem?_map, List.getElem?_map]
      cases hr : (List.range n)[i]? with
      | none => rfl
      | some z =>
        obtain ⟨hz1, hz2⟩ := List.getElem?_eq_some_iff.mp hr
        rw [List.getElem_range] at hz2
        subst hz2
        simp [e]
  have hws := ws_up (G := G) (h := h) (h' := up h a.toNat sl x) ha' hq (fun b hb => up_ne h a.toNat sl x hb) hset
  have hfin2 : ∀ (H1 : Heap) (locs1 : List Loc), va_P (gD G) vwCl ((wsG G S h).set (a.toNat - 1) (gz G + (a.toNat - 1), .inr (ci, (((List.range n).map fun j => fV (gz G) (tagF (tyC ci j)) (h a.toNat j)).set sl (cv G v))))) H1 → va_D (gA G) ((wsG G S h).set (a.toNat - 1) (gz G + (a.toNat - 1), .inr (ci, (((List.range n).map fun j => fV (gz G) (tagF (tyC ci j)) (h a.toNat j)).set sl (cv G v))))) → va_S (gA G) s.heap H1 locs1 → W p l e R s m args below meth c H1 locs1 cells slots Q (F0 m (pc + 3) ls (r.map (cv G))) := by
    intro H1 locs1 hP1 _ hS1
    rw [hws] at hP1
    exact k ls H1 locs1 ⟨⟨hR.1, okM_up hR.2.1 hq (by rw [tgK_o hci]; exact hu.1), hP1⟩, hS1, hL, hV⟩
  by_cases hf : ((clN ci).2.1 sl).2.2.2 = false
  · exact va_put (D := gD G) (ci := ci) (ty := tyC ci sl) (C := (clN ci).1) (T := (clN ci).2.1) (N := (clN ci).2.2) hx hb hts (cl_in hci) (tyC ci) (cl_ty hci) (cl_nm hci) hown hC.1 hR.2.2 (ws_D G S h) hS (a.toNat - 1) hw (cl_at hci) sl hsl (hts _ hlink) (fun _ h9 => h9) hf (cl_ty hci sl hsl) hnf.1 hnf.2 (by rw [List.length_map, List.length_range, hn]; exact hsl) hd hfin2
  · rcases hfin with z | ⟨z1, z2⟩
    · exact absurd z hf
    · have hown2 : s.vm.findClass (clN ci).1 = some m.cls := by rw [← z2]; exact hown
      have hf' : ((clN ci).2.1 sl).2.2.2 = true := by simpa using hf
      have hdec : ((clN ci).2.1 sl).1 = (clN ci).1 := cl_dec hci sl hsl
      refine va_putF (D := gD G) (ci := ci) (ty := tyC ci sl) (C := (clN ci).1) (T := (clN ci).2.1) (N := (clN ci).2.2) hx hb hts (cl_in hci) (tyC ci) (cl_ty hci) (cl_nm hci) hown2 hC.1 hR.2.2 (ws_D G S h) hS (a.toNat - 1) hw (cl_at hci) sl hsl (by rw [z2] at hlink; exact hts _ hlink) (fun _ h9 => h9) hf' (hini z1) hdec (cl_ty hci sl hsl) hnf.1 hnf.2 (by rw [List.length_map, List.length_range, hn]; exact hsl) hd hfin2
theorem s_laload {G : GG} {p : Program} {l : Launch} {e : Env} {R : Room} {s : State} {m : MethodId} {args : Array Value} {below : List Frame} {meth : Method} {c : Code} {Q : State → Prop} {y pc cells slots : Nat} {L : Lv} {r : List AV} {S : Sh} {h : Mem} {a b x : Int} (hv : ald S h 21 a b = some x) (hd : decode (mdN y).2.1 pc = .ok (.laload, 1)) (F : XFC G p s m args meth c y R)
    (k : WC G p l e R s m args below meth c Q y (pc + 1) L (.inr (.inl x) :: r) S h cells slots) : WC G p l e R s m args below meth c Q y pc L (.inl b :: .inr (.inr a) :: r) S h cells slots := by
  intro ls H locs ⟨hR, hS, hL, hV⟩
  obtain ⟨hx, hb, hml, hown, hts, hC, hini, hfr, hlo⟩ := F
  obtain ⟨hvb, hva, hV⟩ := (List.forall_mem_cons.mp hV).imp_right List.forall_mem_cons.mp
  obtain ⟨n, hq, ha, ha', hb0, hb1, rfl⟩ := ald_get hR.1 (by decide) hv
  have hw := ws_at (G := G) (h := h) ha' hq
  rw [cell_l] at hw
  have hT := hR.2.1.1 a.toNat _ hq b.toNat (by show b.toNat < n; omega)
  have h2 := k ls H locs ⟨hR, hS, hL, List.forall_mem_cons.mpr ⟨hT, hV⟩⟩
  rw [List.map_cons, List.map_cons, cv_ref ha]
  refine va_lald hx hb hC.1 hR.2.2 (a.toNat - 1) 1 hw rfl (ofI_in hvb hb0 hb1) hd ?_
  rw [ofI_nat hvb]
  exact h2
theorem s_saload {G : GG} {p : Program} {l : Launch} {e : Env} {R : Room} {s : State} {m : MethodId} {args : Array Value} {below : List Frame} {meth : Method} {c : Code} {Q : State → Prop} {y pc cells slots : Nat} {L : Lv} {r : List AV} {S : Sh} {h : Mem} {a b x : Int} (hv : ald S h 23 a b = some x) (hd : decode (mdN y).2.1 pc = .ok (.saload, 1)) (F : XFC G p s m args meth c y R)
    (k : WC G p l e R s m args below meth c Q y (pc + 1) L (.inl x :: r) S h cells slots) : WC G p l e R s m args below meth c Q y pc L (.inl b :: .inr (.inr a) :: r) S h cells slots := by
  intro ls H locs ⟨hR, hS, hL, hV⟩
  obtain ⟨hx, hb, hml, hown, hts, hC, hini, hfr, hlo⟩ := F
  obtain ⟨hvb, hva, hV⟩ := (List.forall_mem_cons.mp hV).imp_right List.forall_mem_cons.mp
  obtain ⟨n, hq, ha, ha', hb0, hb1, rfl⟩ := ald_get hR.1 (by decide) hv
  have hw := ws_at (G := G) (h := h) ha' hq
  rw [cell_i (by decide)] at hw
  have hT := hR.2.1.1 a.toNat _ hq b.toNat (by show b.toNat < n; omega)
  have h2 := k ls H locs ⟨hR, hS, hL, List.forall_mem_cons.mpr ⟨okI_16 hT, hV⟩⟩
  rw [List.map_cons, List.map_cons, cv_ref ha]
  refine va_sald hx hb hC.1 hR.2.2 (a.toNat - 1) 3 hw rfl (ofI_in hvb hb0 hb1) hd ?_
  rw [ofI_nat hvb]
  exact h2
theorem s_aaload {G : GG} {p : Program} {l : Launch} {e : Env} {R : Room} {s : State} {m : MethodId} {args : Array Value} {below : List Frame} {meth : Method} {c : Code} {Q : State → Prop} {y pc cells slots : Nat} {L : Lv} {r : List AV} {S : Sh} {h : Mem} {a b x : Int} {K : Nat} (hK : K = 24 ∨ K = 25) (hv : ald S h K a b = some x) (hd : decode (mdN y).2.1 pc = .ok (.aaload, 1)) (F : XFC G p s m args meth c y R)
    (k : WC G p l e R s m args below meth c Q y (pc + 1) L (.inr (.inr x) :: r) S h cells slots) : WC G p l e R s m args below meth c Q y pc L (.inl b :: .inr (.inr a) :: r) S h cells slots := by
  intro ls H locs ⟨hR, hS, hL, hV⟩
  obtain ⟨hx, hb, hml, hown, hts, hC, hini, hfr, hlo⟩ := F
  obtain ⟨hvb, hva, hV⟩ := (List.forall_mem_cons.mp hV).imp_right List.forall_mem_cons.mp
  obtain ⟨n, hq, ha, ha', hb0, hb1, rfl⟩ := ald_get hR.1 (by omega) hv
  have hw := ws_at (G := G) (h := h) ha' hq
  rw [cell_q hK] at hw
  have hT := hR.2.1.1 a.toNat _ hq b.toNat (by show b.toNat < n; omega)
  have hT' : 0 ≤ h a.toNat b.toNat ∧ h a.toNat b.toNat < (S.length : Int) := by
    rcases hK with rfl | rfl <;> exact hT
  have h2 := k ls H locs ⟨hR, hS, hL, List.forall_mem_cons.mpr ⟨⟨hT'.2, fun z => absurd hT'.1 (by omega)⟩, hV⟩⟩
  rw [List.map_cons, ← rf_cv hT'.1] at h2
  rw [List.map_cons, List.map_cons, cv_ref ha]
  have hin := ofI_in hvb hb0 hb1
  have hlt : (Int32.ofInt b).toNatClampNeg < n := by rw [ofI_nat hvb]; omega
  have e2 : va_rf (cvR (gz G) (h a.toNat b.toNat)) = va_rf (cvR (gz G) (h a.toNat (Int32.ofInt b).toNatClampNeg)) := by rw [ofI_nat hvb]
  rw [e2] at h2
  rcases hK with rfl | rfl
  · exact va_aldq hx hb hC.1 hR.2.2 (a.toNat - 1) 4 hw rfl hin hd h2
  · exact W.aald (v := va_rf (cvR (gz G) (h a.toNat (Int32.ofInt b).toNatClampNeg))) (ty := .array .long) hx hb (hR.2.2 (a.toNat - 1) _ hw) ((hC.1.2 5 _ rfl).1 n (fun j => va_rf (cvR (gz G) (h a.toNat j)))) rfl (fun q => by cases q) (by show ¬ (_ < 0 ∨ (arrV _ _ _).slots.size ≤ _); rw [arrV_size]; exact hin) (by show (arrV _ _ _).slots[_]? = _; rw [arrV_read _ _ hlt]) rfl rfl hd h2
theorem s_iaload {G : GG} {p : Program} {l : Launch} {e : Env} {R : Room} {s : State} {m : MethodId} {args : Array Value} {below : List Frame} {meth : Method} {c : Code} {Q : State → Prop} {y pc cells slots : Nat} {L : Lv} {r : List AV} {S : Sh} {h : Mem} {a b x : Int} (hv : aldI (gX G) S h a b = some x) (hd : decode (mdN y).2.1 pc = .ok (.iaload, 1)) (F : XFC G p s m args meth c y R)
    (k : WC G p l e R s m args below meth c Q y (pc + 1) L (.inl x :: r) S h cells slots) : WC G p l e R s m args below meth c Q y pc L (.inl b :: .inr (.inr a) :: r) S h cells slots := by
  intro ls H locs ⟨hR, hS, hL, hV⟩
  obtain ⟨hx, hb, hml, hown, hts, hC, hini, hfr, hlo⟩ := F
  obtain ⟨hvb, hva, hU⟩ := (List.forall_mem_cons.mp hV).imp_right List.forall_mem_cons.mp
  unfold aldI at hv
  split at hv
  · next ha =>
    split at hv
    · next hin =>
      cases hv
      obtain ⟨hb0, hb1⟩ := hin
      rw [List.map_cons, List.map_cons, cv_ro ha]
      obtain ⟨-, hz, ⟨b', hb1', hb2, hb3⟩, -, ⟨t3, a3, -, a3'⟩, ⟨t4, a4, -, a4'⟩, ⟨t5, a5, -, a5'⟩, -⟩ := hC
      have tab : ∀ {t : Nat} {tl : List Int} (_ : tl.length = 4) (_ : ∀ j, j < 4 → xkI (tl.getD j 0)) (_ : am_ro (gX G) a = (4, fun j => tl.getD j 0)) (_ : gR G a = .ref t) (_ : va_T .int t 4 (fun j => .int (Int32.ofInt (tl.getD j 0))) (gA G) s s.heap), W p l e R s m args below meth c H locs cells slots Q (F0 m pc ls (cv G (.inl b) :: gR G a :: r.map (cv G))) := by
        intro t tl hl hok ho hg hT
        rw [ho] at hb1
        rw [hg]
        have hb1 : b < 4 := hb1
        have h2 := k ls H locs ⟨hR, hS, hL, List.forall_mem_cons.mpr ⟨by show xkI _; rw [ho]; exact hok b.toNat (by omega), hU⟩⟩
        refine va_ti hx hb hT hS (ofI_in hvb hb0 hb1) rfl hd ?_
        rw [ofI_nat hvb]
        rw [List.map_cons, ho] at h2
        exact h2
      by_cases e2 : a = -2
      · subst e2
        have h2 := k ls H locs ⟨hR, hS, hL, List.forall_mem_cons.mpr ⟨okI_toInt _, hU⟩⟩
        rw [hb1']
        refine va_sld hx hb hb3 (by omega) (by unfold gA; omega) hS (ofI_in hvb hb0 hb1) hd ?_
        rw [ofI_nat hvb]
        rw [List.map_cons] at h2
        have e3 : cv G (.inl ((am_ro (gX G) (-2)).2 b.toNat)) = .int (gx G b.toNat) := by
          show Value.int (Int32.ofInt (gx G b.toNat).toInt) = _
          rw [Int32.ofInt_toInt]
        rw [e3] at h2
        exact h2
      · by_cases e3 : a = -3
        · subst e3
          exact tab (tl := [2, 0, 0, 0]) rfl (by simp only [xkI]; decide) rfl a3 a3'
        · by_cases e4 : a = -4
          · subst e4
            exact tab (tl := [12, 99, 9, 16]) rfl (by simp only [xkI]; decide) rfl a4 a4'
          · by_cases e5 : a = -5
            · subst e5
              exact tab (tl := [6, 0, 2, 2]) rfl (by simp only [xkI]; decide) rfl a5 a5'
            · exfalso
              unfold am_ro at hb1
              rw [if_neg e2, if_neg e3, if_neg e4, if_neg e5] at hb1
              simp at hb1
              omega
    · cases hv
  · obtain ⟨n, hq, ha, ha', hb0, hb1, rfl⟩ := ald_get hR.1 (by decide) hv
    have hw := ws_at (G := G) (h := h) ha' hq
    rw [cell_i (by decide)] at hw
    have hT := hR.2.1.1 a.toNat _ hq b.toNat (by show b.toNat < n; omega)
    have h2 := k ls H locs ⟨hR, hS, hL, List.forall_mem_cons.mpr ⟨hT, hU⟩⟩
    rw [List.map_cons, List.map_cons, cv_ref ha]
    refine va_iald hx hb hC.1 hR.2.2 (a.toNat - 1) 0 hw rfl (ofI_in hvb hb0 hb1) hd ?_
    rw [ofI_nat hvb]
    exact h2
theorem s_baload {G : GG} {p : Program} {l : Launch} {e : Env} {R : Room} {s : State} {m : MethodId} {args : Array Value} {below : List Frame} {meth : Method} {c : Code} {Q : State → Prop} {y pc cells slots : Nat} {L : Lv} {r : List AV} {S : Sh} {h : Mem} {a b x : Int} (hv : aldB S h a b = some x) (hd : decode (mdN y).2.1 pc = .ok (.baload, 1)) (F : XFC G p s m args meth c y R)
    (k : WC G p l e R s m args below meth c Q y (pc + 1) L (.inl x :: r) S h cells slots) : WC G p l e R s m args below meth c Q y pc L (.inl b :: .inr (.inr a) :: r) S h cells slots := by
  intro ls H locs ⟨hR, hS, hL, hV⟩
  obtain ⟨hx, hb, hml, hown, hts, hC, hini, hfr, hlo⟩ := F
  obtain ⟨hvb, hva, hU⟩ := (List.forall_mem_cons.mp hV).imp_right List.forall_mem_cons.mp
  unfold aldB at hv
  split at hv
  · next ha =>
    split at hv
    · next hin =>
      cases hv
      obtain ⟨hb0, hb1⟩ := hin
      rw [List.map_cons, List.map_cons, cv_ro ha]
      obtain ⟨-, hz, -, -, -, -, -, ⟨q1, t1, -, a1, -, -, -, -, a1'⟩, ⟨q2, t2, -, a2, -, -, -, -, a2'⟩, -⟩ := hC
      have tab : ∀ {t : Nat} {tl : List Int} (_ : ∀ j, j < tl.length → xkI (tl.getD j 0)) (_ : am_str a = tl) (_ : gR G a = .ref t) (_ : va_T .byte t tl.length (fun j => .int (Int32.ofInt (tl.getD j 0))) (gA G) s s.heap), W p l e R s m args below meth c H locs cells slots Q (F0 m pc ls (cv G (.inl b) :: gR G a :: r.map (cv G))) := by
        intro t tl hok ho hg hT
        rw [ho] at hb1
        rw [hg]
        have h2 := k ls H locs ⟨hR, hS, hL, List.forall_mem_cons.mpr ⟨by show xkI _; rw [ho]; exact hok b.toNat (by omega), hU⟩⟩
        refine va_tb hx hb hT hS (ofI_in hvb hb0 hb1) rfl hd ?_
        rw [ofI_nat hvb]
        rw [List.map_cons, ho] at h2
        exact h2
      by_cases e6 : a = -6
      · subst e6
        exact tab (tl := am_words) (by simp only [xkI]; decide +kernel) rfl a1 a1'
      · by_cases e7 : a = -7
        · subst e7
          exact tab (tl := am_keys) (by simp only [xkI]; decide +kernel) rfl a2 a2'
        · exfalso
          unfold am_str at hb1
          rw [if_neg e6, if_neg e7] at hb1
          simp at hb1
          omega
    · cases hv
  · obtain ⟨n, hq, ha, ha', hb0, hb1, rfl⟩ := ald_get hR.1 (by decide) hv
    have hw := ws_at (G := G) (h := h) ha' hq
    rw [cell_i (by decide)] at hw
    have hT := hR.2.1.1 a.toNat _ hq b.toNat (by show b.toNat < n; omega)
    have h2 := k ls H locs ⟨hR, hS, hL, List.forall_mem_cons.mpr ⟨okI_8 hT, hU⟩⟩
    rw [List.map_cons, List.map_cons, cv_ref ha]
    refine va_bald hx hb hC.1 hR.2.2 (a.toNat - 1) 2 hw rfl (ofI_in hvb hb0 hb1) hd ?_
    rw [ofI_nat hvb]
    exact h2
theorem s_iastore {G : GG} {p : Program} {l : Launch} {e : Env} {R : Room} {s : State} {m : MethodId} {args : Array Value} {below : List Frame} {meth : Method} {c : Code} {Q : State → Prop} {y pc cells slots : Nat} {L : Lv} {r : List AV} {S : Sh} {h : Mem} {a b x : Int} {h2 : Mem} (hv : ast S h 20 a b (x) = some h2) (hd : decode (mdN y).2.1 pc = .ok (.iastore, 1)) (F : XFC G p s m args meth c y R)
    (k : WC G p l e R s m args below meth c Q y (pc + 1) L r S h2 cells slots) : WC G p l e R s m args below meth c Q y pc L (.inl x :: .inl b :: .inr (.inr a) :: r) S h cells slots := by
  intro ls H locs ⟨hR, hS, hL, hV⟩
  obtain ⟨hx, hb, hml, hown, hts, hC, hini, hfr, hlo⟩ := F
  obtain ⟨hvx, hvb, hva, hV⟩ := (List.forall_mem_cons.mp hV).imp_right (fun z => (List.forall_mem_cons.mp z).imp_right List.forall_mem_cons.mp)
  obtain ⟨n, hq, ha, ha', hb0, hb1, rfl⟩ := ast_get hR.1 (by decide) hv
  have hw := ws_at (G := G) (h := h) ha' hq
  rw [cell_i (by decide)] at hw
  rw [List.map_cons, List.map_cons, List.map_cons, cv_ref ha]
  refine va_iast hx hb hC.1 hR.2.2 (ws_D G S h) hS (a.toNat - 1) 0 hw rfl (ofI_in hvb hb0 hb1) hd fun H1 locs1 hP1 _ hS1 => ?_
  rw [ws_up (h' := up h a.toNat b.toNat (x)) ha' hq (fun z hz => up_ne h a.toNat b.toNat _ hz) ?_] at hP1
  · exact k ls H1 locs1 ⟨⟨hR.1, okM_up hR.2.1 hq (by exact hvx), hP1⟩, hS1, hL, hV⟩
  · rw [cell_i (by decide), up_at, ofI_nat hvb]
    refine congrArg (fun f => (Sum.inl (gC G 20, n, Sum.inl f) : va_E)) (funext fun j => ?_)
    by_cases e : j = b.toNat
    · simp [upd, vp_updL, e, cv]
    · simp [upd, vp_updL, e]
theorem s_bastore {G : GG} {p : Program} {l : Launch} {e : Env} {R : Room} {s : State} {m : MethodId} {args : Array Value} {below : List Frame} {meth : Method} {c : Code} {Q : State → Prop} {y pc cells slots : Nat} {L : Lv} {r : List AV} {S : Sh} {h : Mem} {a b x : Int} {h2 : Mem} (hv : ast S h 22 a b (w8 x) = some h2) (hd : decode (mdN y).2.1 pc = .ok (.bastore, 1)) (F : XFC G p s m args meth c y R)
    (k : WC G p l e R s m args below meth c Q y (pc + 1) L r S h2 cells slots) : WC G p l e R s m args below meth c Q y pc L (.inl x :: .inl b :: .inr (.inr a) :: r) S h cells slots := by
  intro ls H locs ⟨hR, hS, hL, hV⟩
  obtain ⟨hx, hb, hml, hown, hts, hC, hini, hfr, hlo⟩ := F
  obtain ⟨hvx, hvb, hva, hV⟩ := (List.forall_mem_cons.mp hV).imp_right (fun z => (List.forall_mem_cons.mp z).imp_right List.forall_mem_cons.mp)
  obtain ⟨n, hq, ha, ha', hb0, hb1, rfl⟩ := ast_get hR.1 (by decide) hv
  have hw := ws_at (G := G) (h := h) ha' hq
  rw [cell_i (by decide)] at hw
  rw [List.map_cons, List.map_cons, List.map_cons, cv_ref ha]
  refine va_bast hx hb hC.1 hR.2.2 (ws_D G S h) hS (a.toNat - 1) 2 hw rfl (ofI_in hvb hb0 hb1) hd fun H1 locs1 hP1 _ hS1 => ?_
  rw [ws_up (h' := up h a.toNat b.toNat (w8 x)) ha' hq (fun z hz => up_ne h a.toNat b.toNat _ hz) ?_] at hP1
  · exact k ls H1 locs1 ⟨⟨hR.1, okM_up hR.2.1 hq (by exact w8_ok x), hP1⟩, hS1, hL, hV⟩
  · rw [cell_i (by decide), up_at, ofI_nat hvb]
    refine congrArg (fun f => (Sum.inl (gC G 22, n, Sum.inl f) : va_E)) (funext fun j => ?_)
    by_cases e : j = b.toNat
    · simp [upd, vp_updL, e, nar_b hvx]
    · simp [upd, vp_updL, e]
theorem s_sastore {G : GG} {p : Program} {l : Launch} {e : Env} {R : Room} {s : State} {m : MethodId} {args : Array Value} {below : List Frame} {meth : Method} {c : Code} {Q : State → Prop} {y pc cells slots : Nat} {L : Lv} {r : List AV} {S : Sh} {h : Mem} {a b x : Int} {h2 : Mem} (hv : ast S h 23 a b (w16 x) = some h2) (hd : decode (mdN y).2.1 pc = .ok (.sastore, 1)) (F : XFC G p s m args meth c y R)
    (k : WC G p l e R s m args below meth c Q y (pc + 1) L r S h2 cells slots) : WC G p l e R s m args below meth c Q y pc L (.inl x :: .inl b :: .inr (.inr a) :: r) S h cells slots := by
  intro ls H locs ⟨hR, hS, hL, hV⟩
  obtain ⟨hx, hb, hml, hown, hts, hC, hini, hfr, hlo⟩ := F
  obtain ⟨hvx, hvb, hva, hV⟩ := (List.forall_mem_cons.mp hV).imp_right (fun z => (List.forall_mem_cons.mp z).imp_right List.forall_mem_cons.mp)
  obtain ⟨n, hq, ha, ha', hb0, hb1, rfl⟩ := ast_get hR.1 (by decide) hv
  have hw := ws_at (G := G) (h := h) ha' hq
  rw [cell_i (by decide)] at hw
  rw [List.map_cons, List.map_cons, List.map_cons, cv_ref ha]
  refine va_sast hx hb hC.1 hR.2.2 (ws_D G S h) hS (a.toNat - 1) 3 hw rfl (ofI_in hvb hb0 hb1) hd fun H1 locs1 hP1 _ hS1 => ?_
  rw [ws_up (h' := up h a.toNat b.toNat (w16 x)) ha' hq (fun z hz => up_ne h a.toNat b.toNat _ hz) ?_] at hP1
  · exact k ls H1 locs1 ⟨⟨hR.1, okM_up hR.2.1 hq (by exact w16_ok x), hP1⟩, hS1, hL, hV⟩
  · rw [cell_i (by decide), up_at, ofI_nat hvb]
    refine congrArg (fun f => (Sum.inl (gC G 23, n, Sum.inl f) : va_E)) (funext fun j => ?_)
    by_cases e : j = b.toNat
    · simp [upd, vp_updL, e, nar_s hvx]
    · simp [upd, vp_updL, e]
theorem s_lastore {G : GG} {p : Program} {l : Launch} {e : Env} {R : Room} {s : State} {m : MethodId} {args : Array Value} {below : List Frame} {meth : Method} {c : Code} {Q : State → Prop} {y pc cells slots : Nat} {L : Lv} {r : List AV} {S : Sh} {h : Mem} {a b x : Int} {h2 : Mem} (hv : ast S h 21 a b (x) = some h2) (hd : decode (mdN y).2.1 pc = .ok (.lastore, 1)) (F : XFC G p s m args meth c y R)
    (k : WC G p l e R s m args below meth c Q y (pc + 1) L r S h2 cells slots) : WC G p l e R s m args below meth c Q y pc L (.inr (.inl x) :: .inl b :: .inr (.inr a) :: r) S h cells slots := by
  intro ls H locs ⟨hR, hS, hL, hV⟩
  obtain ⟨hx, hb, hml, hown, hts, hC, hini, hfr, hlo⟩ := F
  obtain ⟨hvx, hvb, hva, hV⟩ := (List.forall_mem_cons.mp hV).imp_right (fun z => (List.forall_mem_cons.mp z).imp_right List.forall_mem_cons.mp)
  obtain ⟨n, hq, ha, ha', hb0, hb1, rfl⟩ := ast_get hR.1 (by decide) hv
  have hw := ws_at (G := G) (h := h) ha' hq
  rw [cell_l] at hw
  rw [List.map_cons, List.map_cons, List.map_cons, cv_ref ha]
  refine va_last hx hb hC.1 hR.2.2 (ws_D G S h) hS (a.toNat - 1) 1 hw rfl (ofI_in hvb hb0 hb1) hd fun H1 locs1 hP1 _ hS1 => ?_
  rw [ws_up (h' := up h a.toNat b.toNat (x)) ha' hq (fun z hz => up_ne h a.toNat b.toNat _ hz) ?_] at hP1
  · exact k ls H1 locs1 ⟨⟨hR.1, okM_up hR.2.1 hq (by exact hvx), hP1⟩, hS1, hL, hV⟩
  · rw [cell_l, up_at, ofI_nat hvb]
    refine congrArg (fun f => (Sum.inl (gC G 21, n, Sum.inr (Sum.inl f)) : va_E)) (funext fun j => ?_)
    by_cases e : j = b.toNat
    · simp [upd, vp_updL, e, cv]
    · simp [upd, vp_updL, e]
theorem s_aastore {G : GG} {p : Program} {l : Launch} {e : Env} {R : Room} {s : State} {m : MethodId} {args : Array Value} {below : List Frame} {meth : Method} {c : Code} {Q : State → Prop} {y pc cells slots : Nat} {L : Lv} {r : List AV} {S : Sh} {h : Mem} {a b x : Int} {h2 : Mem} (hx1 : kd S x = 1) (hv : ast S h 24 a b x = some h2) (hd : decode (mdN y).2.1 pc = .ok (.aastore, 1)) (F : XFC G p s m args meth c y R)
    (k : WC G p l e R s m args below meth c Q y (pc + 1) L r S h2 cells slots) : WC G p l e R s m args below meth c Q y pc L (.inr (.inr x) :: .inl b :: .inr (.inr a) :: r) S h cells slots := by
  intro ls H locs ⟨hR, hS, hL, hV⟩
  obtain ⟨hx, hb, hml, hown, hts, hC, hini, hfr, hlo⟩ := F
  obtain ⟨hvx, hvb, hva, hV⟩ := (List.forall_mem_cons.mp hV).imp_right (fun z => (List.forall_mem_cons.mp z).imp_right List.forall_mem_cons.mp)
  obtain ⟨n, hq, ha, ha', hb0, hb1, rfl⟩ := ast_get hR.1 (by decide) hv
  obtain ⟨nx, hqx, -⟩ := kd_get hx1 (by decide)
  obtain ⟨hxp, hxp'⟩ := kd_pos hR.1 hqx (by decide)
  have hw := ws_at (G := G) (h := h) ha' hq
  have hwx := ws_at (G := G) (h := h) hxp' hqx
  rw [cell_q (by decide)] at hw
  rw [cell_o (by decide)] at hwx
  rw [List.map_cons, List.map_cons, List.map_cons, cv_ref ha, cv_ref hxp]
  refine va_astq hx hb hC.1 hR.2.2 (ws_D G S h) hS (a.toNat - 1) 4 (x.toNat - 1) 1 (r := clN 1) hw rfl hwx (cl_at (by decide)) (ofI_in hvb hb0 hb1) hd fun H1 locs1 hP1 _ hS1 => ?_
  rw [ws_up (h' := up h a.toNat b.toNat x) ha' hq (fun z hz => up_ne h a.toNat b.toNat _ hz) ?_] at hP1
  · exact k ls H1 locs1 ⟨⟨hR.1, okM_up hR.2.1 hq (by exact ⟨by omega, hvx.1⟩), hP1⟩, hS1, hL, hV⟩
  · rw [cell_q (by decide), up_at, ofI_nat hvb]
    refine congrArg (fun f => (Sum.inl (gC G 24, n, Sum.inr (Sum.inr (Sum.inr (Sum.inr f)))) : va_E)) (funext fun j => ?_)
    by_cases e : j = b.toNat
    · have : ¬ x ≤ 0 := by omega
      simp [va_up, e, cvR, this, adr]
    · simp [va_up, e]
theorem s_arraylength {G : GG} {p : Program} {l : Launch} {e : Env} {R : Room} {s : State} {m : MethodId} {args : Array Value} {below : List Frame} {meth : Method} {c : Code} {Q : State → Prop} {y pc cells slots : Nat} {L : Lv} {r : List AV} {S : Sh} {h : Mem} {a x : Int} (hv : aln (gX G) S a = some x) (hd : decode (mdN y).2.1 pc = .ok (.arraylength, 1)) (F : XFC G p s m args meth c y R)
    (k : WC G p l e R s m args below meth c Q y (pc + 1) L (.inl x :: r) S h cells slots) : WC G p l e R s m args below meth c Q y pc L (.inr (.inr a) :: r) S h cells slots := by
  intro ls H locs ⟨hR, hS, hL, hV⟩
  obtain ⟨hx, hb, hml, hown, hts, hC, hini, hfr, hlo⟩ := F
  obtain ⟨hva, hU⟩ := List.forall_mem_cons.mp hV
  unfold aln at hv
  split at hv
  · next ha =>
    rw [List.map_cons, cv_ro ha]
    obtain ⟨-, hz, ⟨b', hb1', hb2, hb3⟩, hL3, -, -, -, ⟨q1, t1, -, a1, -, -, -, -, a1'⟩, ⟨q2, t2, -, a2, -, -, -, -, a2'⟩, -⟩ := hC
    split at hv
    · next e =>
      subst e
      cases hv
      rw [hb1']
      have ok : xkI (gL G : Int) := by unfold xkI; omega
      have h2 := k ls H locs ⟨hR, hS, hL, List.forall_mem_cons.mpr ⟨ok, hU⟩⟩
      refine va_slen hx hb hb3 (by omega) (by unfold gA; omega) hS hd ?_
      exact h2
    · split at hv
      · next e =>
        cases hv
        rcases e with rfl | rfl
        · have h2 := k ls H locs ⟨hR, hS, hL, List.forall_mem_cons.mpr ⟨by show xkI _; unfold xkI; decide +kernel, hU⟩⟩
          rw [a1]
          rw [List.map_cons, show am_str (-6) = am_words from rfl] at h2
          exact va_tlen hx hb a1' hS (ofN_I _) hd h2
        · have h2 := k ls H locs ⟨hR, hS, hL, List.forall_mem_cons.mpr ⟨by show xkI _; unfold xkI; decide +kernel, hU⟩⟩
          rw [a2]
          rw [List.map_cons, show am_str (-7) = am_keys from rfl] at h2
          exact va_tlen hx hb a2' hS (ofN_I _) hd h2
      · cases hv
  · split at hv
    · next hk =>
      cases hv
      obtain ⟨n, hq, hn⟩ := kd_get (S := S) (r := a) rfl (by omega)
      obtain ⟨ha, ha'⟩ := kd_pos hR.1 hq (by omega)
      have hn1 := arr_n hR.1 ha' hq hk.1
      have ok : xkI (ln S a : Int) := by unfold xkI; omega
      have h2 := k ls H locs ⟨hR, hS, hL, List.forall_mem_cons.mpr ⟨ok, hU⟩⟩
      have hw := ws_at (G := G) (h := h) ha' hq
      rw [List.map_cons, cv_ref ha]
      rw [hn] at h2
      have hK : kd S a = 20 ∨ kd S a = 21 ∨ kd S a = 22 ∨ kd S a = 23 ∨ kd S a = 24 ∨ kd S a = 25 := by omega
      rcases hK with e | e | e | e | e | e
      · rw [e, cell_i (by decide)] at hw
        exact va_alen hx hb hC.1 hR.2.2 (a.toNat - 1) 0 hw (ty := .int) rfl rfl hd h2
      · rw [e, cell_l] at hw
        exact va_alen hx hb hC.1 hR.2.2 (a.toNat - 1) 1 hw (ty := .long) rfl rfl hd h2
      · rw [e, cell_i (by decide)] at hw
        exact va_alen hx hb hC.1 hR.2.2 (a.toNat - 1) 2 hw (ty := .byte) rfl rfl hd h2
      · rw [e, cell_i (by decide)] at hw
        exact va_alen hx hb hC.1 hR.2.2 (a.toNat - 1) 3 hw (ty := .short) rfl rfl hd h2
      · rw [e, cell_q (by decide)] at hw
        exact va_alen hx hb hC.1 hR.2.2 (a.toNat - 1) 4 hw (ty := .object "BestMenDuel$Dawn") rfl rfl hd h2
      · rw [e, cell_q (by decide)] at hw
        exact va_alen hx hb hC.1 hR.2.2 (a.toNat - 1) 5 hw (ty := .array .long) rfl rfl hd h2
    · cases hv
