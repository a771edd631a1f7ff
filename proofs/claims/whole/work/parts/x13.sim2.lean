/-! rows: locals that are written (written by wip/tools/gensim2.py) -/
theorem lv_mono {ls : Array Slot} {n : Nat} {l l' : List (Nat × Value)} (h : lv_has ls n l) (hs : ∀ q ∈ l', q ∈ l) : lv_has ls n l' := ⟨h.1, h.2.1, fun q hq => h.2.2 q (hs q hq)⟩
theorem clrP_get {L : Lv} {i j : Nat} {u : AV} (h : (clrP L i)[j]? = some (some u)) : L[j]? = some (some u) ∧ ¬ (j + 1 = i ∧ cat u = 2) := by
  cases i with
  | zero => exact ⟨h, fun z => by omega⟩
  | succ k =>
    unfold clrP at h
    dsimp only at h
    split at h
    · next x hx =>
      by_cases e : j = k
      · subst e
        rw [List.getElem?_set_self (List.getElem?_eq_some_iff.mp hx).1] at h
        cases h
      · rw [List.getElem?_set_ne (fun z => e z.symm)] at h
        exact ⟨h, fun z => e (by omega)⟩
    · next hn =>
      refine ⟨h, fun z => ?_⟩
      have e : j = k := by omega
      subst e
      match u, h, z with
      | .inr (.inl x), h, _ => exact hn x h
      | .inl x, _, z => cases z.2
      | .inr (.inr x), _, z => cases z.2
theorem clrP_len (L : Lv) (i : Nat) : (clrP L i).length = L.length := by
  cases i with
  | zero => rfl
  | succ k =>
    unfold clrP
    dsimp only
    split
    · rw [List.length_set]
    · rfl
theorem cat_cv2 {G : GG} {S : Sh} {v : AV} (hG : ∀ r : Int, -10 ≤ r → r ≤ -2 → (gR G r).category = 1) (hv : okV S v) (h : (cv G v).category = 2) : cat v = 2 := by
  match v, hv with
  | .inr (.inl x), _ => rfl
  | .inl x, hv => have := cat_cv1 hG hv rfl; omega
  | .inr (.inr r), hv => have := cat_cv1 hG hv rfl; omega
theorem LR_st1 {G : GG} {S : Sh} {nL i : Nat} {ls ls' : Array Slot} {L : Lv} {v : AV} (hL : LR G S nL ls L) (hG : ∀ r : Int, -10 ≤ r → r ≤ -2 → (gR G r).category = 1) (hv : okV S v)
    (h' : lv_has ls' nL ((i, cv G v) :: (asl G L).filter (fun q => !(q.1 == i) && !(q.1 + 1 == i && q.2.category == 2)))) : LR G S nL ls' (st1 L i v) := by
  have key : ∀ (j : Nat) (u : AV), (st1 L i v)[j]? = some (some u) → (j = i ∧ u = v) ∨ (j ≠ i ∧ L[j]? = some (some u) ∧ ¬ (j + 1 = i ∧ cat u = 2)) := by
    intro j u h
    unfold st1 at h
    by_cases e : j = i
    · subst e
      have hl : j < (clrP L j).length := by
        have := (List.getElem?_eq_some_iff.mp h).1
        rwa [List.length_set] at this
      rw [List.getElem?_set_self hl] at h
      cases h
      exact Or.inl ⟨rfl, rfl⟩
    · rw [List.getElem?_set_ne (fun z => e z.symm)] at h
      exact Or.inr ⟨e, clrP_get h⟩
  refine ⟨by unfold st1; rw [List.length_set, clrP_len]; exact hL.1, lv_mono h' ?_, ?_⟩
  · rintro ⟨j, w⟩ hq
    obtain ⟨u, h1, rfl⟩ := asl_mem.mp hq
    rcases key j u h1 with ⟨rfl, rfl⟩ | ⟨e, h2, h3⟩
    · exact List.mem_cons_self
    · refine List.mem_cons_of_mem _ (List.mem_filter.mpr ⟨asl_mem.mpr ⟨u, h2, rfl⟩, ?_⟩)
      have hu := hL.2.2 u (List.mem_of_getElem? h2)
      have : ¬ (j + 1 = i ∧ (cv G u).category = 2) := fun z => h3 ⟨z.1, cat_cv2 hG hu z.2⟩
      simp [e]
      omega
  · intro u hu
    obtain ⟨j, hj⟩ := List.getElem?_of_mem hu
    rcases key j u hj with ⟨-, rfl⟩ | ⟨-, h2, -⟩
    · exact hv
    · exact hL.2.2 u (List.mem_of_getElem? h2)
theorem LR_st2 {G : GG} {S : Sh} {nL i : Nat} {ls ls' : Array Slot} {L : Lv} {v : AV} (hL : LR G S nL ls L) (hG : ∀ r : Int, -10 ≤ r → r ≤ -2 → (gR G r).category = 1) (hv : okV S v)
    (h' : lv_has ls' nL ((i, cv G v) :: (asl G L).filter (fun q => !(q.1 == i) && (!(q.1 == i + 1) && !(q.1 + 1 == i && q.2.category == 2))))) : LR G S nL ls' (st2 L i v) := by
  have key : ∀ (j : Nat) (u : AV), (st2 L i v)[j]? = some (some u) → (j = i ∧ u = v) ∨ (j ≠ i ∧ j ≠ i + 1 ∧ L[j]? = some (some u) ∧ ¬ (j + 1 = i ∧ cat u = 2)) := by
    intro j u h
    unfold st2 at h
    by_cases e1 : j = i + 1
    · subst e1
      have hl := (List.getElem?_eq_some_iff.mp h).1
      rw [List.length_set] at hl
      rw [List.getElem?_set_self hl] at h
      cases h
    · rw [List.getElem?_set_ne (fun z => e1 z.symm)] at h
      by_cases e : j = i
      · subst e
        have hl : j < (clrP L j).length := by
          have := (List.getElem?_eq_some_iff.mp h).1
          rwa [List.length_set] at this
        rw [List.getElem?_set_self hl] at h
        cases h
        exact Or.inl ⟨rfl, rfl⟩
      · rw [List.getElem?_set_ne (fun z => e z.symm)] at h
        exact Or.inr ⟨e, e1, clrP_get h⟩
  refine ⟨by unfold st2; rw [List.length_set, List.length_set, clrP_len]; exact hL.1, lv_mono h' ?_, ?_⟩
  · rintro ⟨j, w⟩ hq
    obtain ⟨u, h1, rfl⟩ := asl_mem.mp hq
    rcases key j u h1 with ⟨rfl, rfl⟩ | ⟨e, e1, h2, h3⟩
    · exact List.mem_cons_self
    · refine List.mem_cons_of_mem _ (List.mem_filter.mpr ⟨asl_mem.mpr ⟨u, h2, rfl⟩, ?_⟩)
      have hu := hL.2.2 u (List.mem_of_getElem? h2)
      have : ¬ (j + 1 = i ∧ (cv G u).category = 2) := fun z => h3 ⟨z.1, cat_cv2 hG hu z.2⟩
      simp [e, e1]
      omega
  · intro u hu
    obtain ⟨j, hj⟩ := List.getElem?_of_mem hu
    rcases key j u hj with ⟨-, rfl⟩ | ⟨-, -, h2, -⟩
    · exact hv
    · exact hL.2.2 u (List.mem_of_getElem? h2)
theorem s_istore_n {G : GG} {p : Program} {l : Launch} {e : Env} {R : Room} {s : State} {m : MethodId} {args : Array Value} {below : List Frame} {meth : Method} {c : Code} {Q : State → Prop} {y pc cells slots : Nat} {L : Lv} {r : List AV} {S : Sh} {h : Mem} {n : Fin 4} {x : Int} (hn : n.val < (mdN y).2.2.1) (hd : decode (mdN y).2.1 pc = .ok (.istore_n n, 1)) (F : XFC G p s m args meth c y R)
    (k : WC G p l e R s m args below meth c Q y (pc + 1) (st1 L n.val (.inl x)) r S h cells slots) : WC G p l e R s m args below meth c Q y pc L (.inl x :: r) S h cells slots := by
  intro ls H locs ⟨hR, hS, hL, hV⟩
  obtain ⟨hx, hb, hml, hown, hts, hC, hini, hfr, hlo⟩ := F
  obtain ⟨hva, hV⟩ := List.forall_mem_cons.mp hV
  exact lv_istore_n hx hb hd rfl hL.2.1 hn rfl (fun ls' hl' => k ls' H locs ⟨hR, hS, LR_st1 hL (CX_ro hC) hva hl', hV⟩)
theorem s_istore {G : GG} {p : Program} {l : Launch} {e : Env} {R : Room} {s : State} {m : MethodId} {args : Array Value} {below : List Frame} {meth : Method} {c : Code} {Q : State → Prop} {y pc cells slots : Nat} {L : Lv} {r : List AV} {S : Sh} {h : Mem} {n : Nat} {x : Int} (hn : n < (mdN y).2.2.1) (hd : decode (mdN y).2.1 pc = .ok (.istore n, 2)) (F : XFC G p s m args meth c y R)
    (k : WC G p l e R s m args below meth c Q y (pc + 2) (st1 L n (.inl x)) r S h cells slots) : WC G p l e R s m args below meth c Q y pc L (.inl x :: r) S h cells slots := by
  intro ls H locs ⟨hR, hS, hL, hV⟩
  obtain ⟨hx, hb, hml, hown, hts, hC, hini, hfr, hlo⟩ := F
  obtain ⟨hva, hV⟩ := List.forall_mem_cons.mp hV
  exact lv_istore hx hb hd hL.2.1 hn rfl (fun ls' hl' => k ls' H locs ⟨hR, hS, LR_st1 hL (CX_ro hC) hva hl', hV⟩)
theorem s_lstore_n {G : GG} {p : Program} {l : Launch} {e : Env} {R : Room} {s : State} {m : MethodId} {args : Array Value} {below : List Frame} {meth : Method} {c : Code} {Q : State → Prop} {y pc cells slots : Nat} {L : Lv} {r : List AV} {S : Sh} {h : Mem} {n : Fin 4} {x : Int} (hn : n.val + 1 < (mdN y).2.2.1) (hd : decode (mdN y).2.1 pc = .ok (.lstore_n n, 1)) (F : XFC G p s m args meth c y R)
    (k : WC G p l e R s m args below meth c Q y (pc + 1) (st2 L n.val (.inr (.inl x))) r S h cells slots) : WC G p l e R s m args below meth c Q y pc L (.inr (.inl x) :: r) S h cells slots := by
  intro ls H locs ⟨hR, hS, hL, hV⟩
  obtain ⟨hx, hb, hml, hown, hts, hC, hini, hfr, hlo⟩ := F
  obtain ⟨hva, hV⟩ := List.forall_mem_cons.mp hV
  exact lv_lstore_n hx hb hd rfl hL.2.1 hn rfl (fun ls' hl' => k ls' H locs ⟨hR, hS, LR_st2 hL (CX_ro hC) hva hl', hV⟩)
theorem s_lstore {G : GG} {p : Program} {l : Launch} {e : Env} {R : Room} {s : State} {m : MethodId} {args : Array Value} {below : List Frame} {meth : Method} {c : Code} {Q : State → Prop} {y pc cells slots : Nat} {L : Lv} {r : List AV} {S : Sh} {h : Mem} {n : Nat} {x : Int} (hn : n + 1 < (mdN y).2.2.1) (hd : decode (mdN y).2.1 pc = .ok (.lstore n, 2)) (F : XFC G p s m args meth c y R)
    (k : WC G p l e R s m args below meth c Q y (pc + 2) (st2 L n (.inr (.inl x))) r S h cells slots) : WC G p l e R s m args below meth c Q y pc L (.inr (.inl x) :: r) S h cells slots := by
  intro ls H locs ⟨hR, hS, hL, hV⟩
  obtain ⟨hx, hb, hml, hown, hts, hC, hini, hfr, hlo⟩ := F
  obtain ⟨hva, hV⟩ := List.forall_mem_cons.mp hV
  exact lv_lstore hx hb hd hL.2.1 hn rfl (fun ls' hl' => k ls' H locs ⟨hR, hS, LR_st2 hL (CX_ro hC) hva hl', hV⟩)
theorem s_astore_n {G : GG} {p : Program} {l : Launch} {e : Env} {R : Room} {s : State} {m : MethodId} {args : Array Value} {below : List Frame} {meth : Method} {c : Code} {Q : State → Prop} {y pc cells slots : Nat} {L : Lv} {r : List AV} {S : Sh} {h : Mem} {n : Fin 4} {x : Int} (hn : n.val < (mdN y).2.2.1) (hd : decode (mdN y).2.1 pc = .ok (.astore_n n, 1)) (F : XFC G p s m args meth c y R)
    (k : WC G p l e R s m args below meth c Q y (pc + 1) (st1 L n.val (.inr (.inr x))) r S h cells slots) : WC G p l e R s m args below meth c Q y pc L (.inr (.inr x) :: r) S h cells slots := by
  intro ls H locs ⟨hR, hS, hL, hV⟩
  obtain ⟨hx, hb, hml, hown, hts, hC, hini, hfr, hlo⟩ := F
  obtain ⟨hva, hV⟩ := List.forall_mem_cons.mp hV
  obtain ⟨o, ho⟩ := cv_isref hC hva
  have h2 : ∀ ls', lv_has ls' (mdN y).2.2.1 ((n.val, va_rf o) :: (asl G L).filter (fun q => !(q.1 == n.val) && !(q.1 + 1 == n.val && q.2.category == 2))) → _ := fun ls' hl' => k ls' H locs ⟨hR, hS, LR_st1 hL (CX_ro hC) hva (by rw [ho]; exact hl'), hV⟩
  rw [List.map_cons, ho]
  cases o with
  | none => exact lv_astore_nN hx hb hd rfl hL.2.1 hn rfl h2
  | some a => exact lv_astore_n hx hb hd rfl hL.2.1 hn rfl h2
theorem s_astore {G : GG} {p : Program} {l : Launch} {e : Env} {R : Room} {s : State} {m : MethodId} {args : Array Value} {below : List Frame} {meth : Method} {c : Code} {Q : State → Prop} {y pc cells slots : Nat} {L : Lv} {r : List AV} {S : Sh} {h : Mem} {n : Nat} {x : Int} (hn : n < (mdN y).2.2.1) (hd : decode (mdN y).2.1 pc = .ok (.astore n, 2)) (F : XFC G p s m args meth c y R)
    (k : WC G p l e R s m args below meth c Q y (pc + 2) (st1 L n (.inr (.inr x))) r S h cells slots) : WC G p l e R s m args below meth c Q y pc L (.inr (.inr x) :: r) S h cells slots := by
  intro ls H locs ⟨hR, hS, hL, hV⟩
  obtain ⟨hx, hb, hml, hown, hts, hC, hini, hfr, hlo⟩ := F
  obtain ⟨hva, hV⟩ := List.forall_mem_cons.mp hV
  obtain ⟨o, ho⟩ := cv_isref hC hva
  have h2 : ∀ ls', lv_has ls' (mdN y).2.2.1 ((n, va_rf o) :: (asl G L).filter (fun q => !(q.1 == n) && !(q.1 + 1 == n && q.2.category == 2))) → _ := fun ls' hl' => k ls' H locs ⟨hR, hS, LR_st1 hL (CX_ro hC) hva (by rw [ho]; exact hl'), hV⟩
  rw [List.map_cons, ho]
  cases o with
  | none => exact lv_astoreN hx hb hd hL.2.1 hn rfl h2
  | some a => exact lv_astore hx hb hd hL.2.1 hn rfl h2
theorem s_iinc {G : GG} {p : Program} {l : Launch} {e : Env} {R : Room} {s : State} {m : MethodId} {args : Array Value} {below : List Frame} {meth : Method} {c : Code} {Q : State → Prop} {y pc cells slots : Nat} {L : Lv} {r : List AV} {S : Sh} {h : Mem} {n : Nat} {d x : Int} (hl : L[n]? = some (some (.inl x))) (hn : n < (mdN y).2.2.1) (hd : decode (mdN y).2.1 pc = .ok (.iinc n d, 3)) (F : XFC G p s m args meth c y R)
    (k : WC G p l e R s m args below meth c Q y (pc + 3) (st1 L n (.inl (w32 (x + d)))) r S h cells slots) : WC G p l e R s m args below meth c Q y pc L r S h cells slots := by
  intro ls H locs ⟨hR, hS, hL, hV⟩
  obtain ⟨hx, hb, hml, hown, hts, hC, hini, hfr, hlo⟩ := F
  obtain ⟨j, hj⟩ := List.getElem?_of_mem (asl_mem.mpr ⟨_, hl, rfl⟩ : (n, cv G (.inl x)) ∈ asl G L)
  exact lv_iinc hx hb hd hL.2.1 hj (mI_add x d).symm hn rfl (fun ls' hl' => k ls' H locs ⟨hR, hS, LR_st1 hL (CX_ro hC) (w32_ok _) hl', hV⟩)
