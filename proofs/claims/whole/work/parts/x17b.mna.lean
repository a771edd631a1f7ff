/-! arrays of arrays: several cells are made at once; what the library knows of multianewarray (a hypothesis here; the last part has its proof) -/
def MNA : Prop := ∀ (p : Program) (l : Launch) (e : Env) (R : Room) (s : State) (m : MethodId) (args : Array Value) (below : List Frame) (meth : Method) (c : Code) (H : Heap) (locs : List Loc) (cells slots : Nat) (Q : State → Prop) (cc : ByteArray) (own : String) (ix pc : Nat) (ls : Array Slot) (rest : List Value) (n k : Int32) (N K : Nat),
  p.tables.exec = Jvm.exec → c.code = cc → s.vm.findClass own = some m.cls → (Cond.classLink own ix "[[J").before args s = true → (Cond.arrayOver (.array .long)).before args s = true → (Cond.arrayClass .long).before args s = true → decode cc pc = .ok (.multianewarray ix 2, 4) → ¬ n < 0 → ¬ k < 0 → n.toNatClampNeg = N → k.toNatClampNeg = K → N ≤ 1000 → K ≤ 1000 → cells + (1 + N) ≤ R.cells → slots + (N + N * K) ≤ R.slots →
  (∀ (H1 : Heap) (cA comp : ClassId), s.vm.findClass "[[J" = some cA → s.vm.findClass "[J" = some comp → (∀ q : Nat, q < H.size → H1[q]? = H[q]?) → H.size ≤ H1.size → H1[H.size]? = some (arrV cA N fun j => va_rf (if j < N then some (H.size + 1 + j) else none)) → (∀ j : Nat, j < N → H1[H.size + 1 + j]? = some (arrV comp K fun _ => .long 0)) → W p l e R s m args below meth c H1 locs (cells + 1 + N) (slots + N + N * K) Q (F0 m (pc + 4) ls (.ref H.size :: rest))) →
  W p l e R s m args below meth c H locs cells slots Q (F0 m pc ls (.int k :: .int n :: rest))
theorem Rel_app {G : GG} {S T : Sh} {h h' : Mem} {H H1 : Heap} (hR : Rel G S h H) (hq : ∀ q ∈ T, 20 ≤ q.1 ∧ q.1 ≤ 25 ∧ q.2 ≤ 100000) (h1 : ∀ k, k < S.length → h' k = h k) (h2 : ∀ k j, S.length + T.length ≤ k → h' k j = 0)
    (h3 : ∀ i q, T[i]? = some q → ∀ j, j < q.2 → xkT (S.length + T.length) (tgK q.1 j) (h' (S.length + i) j)) (ho : ∀ x, x < H.size → H1[x]? = H[x]?) (hn : ∀ i q, T[i]? = some q → va_at (gD G) vwCl (gz G + (S.length - 1 + i), cellG G q (h' (S.length + i))) H1) : Rel G (S ++ T) h' H1 := by
  have h0 : 0 < S.length := (List.getElem?_eq_some_iff.mp hR.1.1).1
  refine ⟨⟨by rw [List.getElem?_append_left h0]; exact hR.1.1, fun k p hk hp => ?_⟩, ⟨fun k p hp j hj => ?_, fun k hk j => h2 k j (by rw [List.length_append] at hk; exact hk)⟩, fun k x hx => ?_⟩
  · by_cases hl : k < S.length
    · rw [List.getElem?_append_left hl] at hp
      exact hR.1.2 k p hk hp
    · rw [List.getElem?_append_right (by omega)] at hp
      exact Or.inr (hq p (List.mem_of_getElem? hp))
  · rw [List.length_append]
    by_cases hl : k < S.length
    · rw [List.getElem?_append_left hl] at hp
      rw [h1 k hl]
      exact okT_mono (by omega) (hR.2.1.1 k p hp j hj)
    · rw [List.getElem?_append_right (by omega)] at hp
      have := h3 (k - S.length) p hp j hj
      rwa [show S.length + (k - S.length) = k by omega] at this
  · have hP1 : va_P (gD G) vwCl (wsG G S h) H1 := hR.2.2.kept (fun k x hx => ho x.1 ((hR.2.2 k x hx).lt))
    have hk : k < (S ++ T).length - 1 := by
      have := (List.getElem?_eq_some_iff.mp hx).1
      rwa [ws_len] at this
    rw [List.length_append] at hk
    by_cases hl : k + 1 < S.length
    · have e1 : S[k + 1]? = some S[k + 1] := List.getElem?_eq_getElem hl
      have e2 : (S ++ T)[k + 1]? = some S[k + 1] := by rw [List.getElem?_append_left hl]; exact e1
      have a1 := ws_at (G := G) (h := h) (Nat.succ_pos k) e1
      have a2 := ws_at (G := G) (h := h') (Nat.succ_pos k) e2
      rw [h1 _ hl] at a2
      rw [← a1] at a2
      exact hP1 k x (a2.symm.trans hx)
    · have hl2 : k + 1 < (S ++ T).length := by rw [List.length_append]; omega
      obtain ⟨q, e2⟩ : ∃ q, (S ++ T)[k + 1]? = some q := ⟨_, List.getElem?_eq_getElem hl2⟩
      have e3 : T[k + 1 - S.length]? = some q := by
        rw [← List.getElem?_append_right (by omega)]
        exact e2
      have a2 := ws_at (G := G) (h := h') (Nat.succ_pos k) e2
      have e : x = _ := Option.some.inj (hx.symm.trans a2)
      have := hn _ _ e3
      rw [show S.length - 1 + (k + 1 - S.length) = k by omega, show S.length + (k + 1 - S.length) = k + 1 by omega] at this
      rw [e]
      exact this
set_option maxHeartbeats 1000000 in
theorem s_multianewarray (M : MNA) {G : GG} {p : Program} {l : Launch} {e : Env} {R : Room} {s : State} {m : MethodId} {args : Array Value} {below : List Frame} {meth : Method} {c : Code} {Q : State → Prop} {y pc cells slots : Nat} {L : Lv} {r : List AV} {S : Sh} {h : Mem} (ho : (mdN y).1.cls = "BestMenDuel$Trays") (hz : s.heap.size + cells = gz G + (S.length - 1)) (hcl : cells + 5 ≤ R.cells) (hsl : slots + 244 ≤ R.slots) (hd : decode (mdN y).2.1 pc = .ok (.multianewarray 11 2, 4)) (F : XFC G p s m args meth c y R)
    (k : WC G p l e R s m args below meth c Q y (pc + 4) L (.inr (.inr (S.length : Int)) :: r) (S ++ [(25, 4), (21, 60), (21, 60), (21, 60), (21, 60)]) (fun a j => if a = S.length ∧ j < 4 then (S.length : Int) + 1 + j else h a j) (cells + 5) (slots + 244)) : WC G p l e R s m args below meth c Q y pc L (.inl 60 :: .inl 4 :: r) S h cells slots := by
  intro ls H locs ⟨hR, hS, hL, hV⟩
  obtain ⟨hx, hb, hml, hown, hts, hC, hini, hfr, hlo⟩ := F
  have hU : ∀ v ∈ r, okV S v := (List.forall_mem_cons.mp (List.forall_mem_cons.mp hV).2).2
  have h0 : 0 < S.length := (List.getElem?_eq_some_iff.mp hR.1.1).1
  refine W_size fun hs => ?_
  have hsz := Rel_size hC hR hS hz hs
  rw [ho] at hown
  have hAO : xAOA .long s := hC.2.2.2.2.2.2.2.2.2.2.2.2
  refine M p l e R s m args below meth c H locs cells slots Q (mdN y).2.1 "BestMenDuel$Trays" 11 pc ls (r.map (cv G)) 4 60 4 60 hx hb hown (hts _ TG_kl.2) hAO (hts _ TG_arr.2.1) hd (by decide) (by decide) (by decide) (by decide) (by decide) (by decide) hcl hsl fun H1 cA comp f1 f2 o1 z1 g1 g2 => ?_
  have eA : gC G 25 = cA := Option.some.inj ((hC.1.2 5 _ rfl).2.symm.trans f1)
  have eC : gC G 21 = comp := Option.some.inj ((hC.1.2 1 _ rfl).2.symm.trans f2)
  have hR1 : Rel G (S ++ [(25, 4), (21, 60), (21, 60), (21, 60), (21, 60)]) (fun a j => if a = S.length ∧ j < 4 then (S.length : Int) + 1 + j else h a j) H1 := by
    have hin : ∀ i q, ([(25, 4), (21, 60), (21, 60), (21, 60), (21, 60)] : Sh)[i]? = some q → (i = 0 ∧ q = (25, 4)) ∨ (∃ j, i = j + 1 ∧ j < 4 ∧ q = (21, 60)) := by
      intro i q hi
      match i, hi with
      | 0, hi => cases hi; exact Or.inl ⟨rfl, rfl⟩
      | 1, hi => cases hi; exact Or.inr ⟨0, rfl, by omega, rfl⟩
      | 2, hi => cases hi; exact Or.inr ⟨1, rfl, by omega, rfl⟩
      | 3, hi => cases hi; exact Or.inr ⟨2, rfl, by omega, rfl⟩
      | 4, hi => cases hi; exact Or.inr ⟨3, rfl, by omega, rfl⟩
    have hz0 : ∀ k, S.length ≤ k → ∀ j, h k j = 0 := hR.2.1.2
    refine Rel_app hR (by decide) (fun k hk => funext fun j => ?_) (fun k j hk => ?_) (fun i q hi j hj => ?_) o1 (fun i q hi => ?_)
    · rw [if_neg (by omega)]
    · have hk : S.length + 5 ≤ k := hk
      rw [if_neg (by omega)]
      exact hz0 k (by omega) j
    · rcases hin i q hi with ⟨rfl, rfl⟩ | ⟨j', rfl, hj', rfl⟩
      · dsimp only at hj ⊢
        rw [if_pos ⟨by omega, hj⟩]
        show 0 ≤ (S.length : Int) + 1 + j ∧ (S.length : Int) + 1 + j < ((S.length + 5 : Nat) : Int)
        omega
      · dsimp only
        rw [if_neg (by omega), hz0 _ (by omega)]
        show okJ 0
        unfold okJ
        omega
    · rcases hin i q hi with ⟨rfl, rfl⟩ | ⟨j', rfl, hj', rfl⟩
      · rw [cell_q (Or.inr rfl), eA]
        show H1[gz G + (S.length - 1 + 0)]? = some (vp_cell _ _)
        rw [vp_cell_q, Nat.add_zero, ← hsz, g1]
        refine congrArg (fun f => some (arrV cA 4 f)) (funext fun j => congrArg va_rf ?_)
        by_cases hj : j < 4
        · rw [if_pos hj, if_pos ⟨by omega, hj⟩]
          unfold cvR adr
          rw [if_neg (by omega), hsz]
          refine congrArg some ?_
          omega
        · rw [if_neg hj, if_neg (by omega), hz0 _ (by omega)]
          rfl
      · rw [cell_l, eC]
        show H1[gz G + (S.length - 1 + (j' + 1))]? = some (vp_cell _ _)
        rw [vp_cell_l, show gz G + (S.length - 1 + (j' + 1)) = H.size + 1 + j' by omega, g2 j' hj']
        refine congrArg (fun f => some (arrV comp 60 f)) (funext fun j => ?_)
        rw [if_neg (by omega), hz0 _ (by omega)]
        rfl
  have hlen : S.length ≤ (S ++ [(25, 4), (21, 60), (21, 60), (21, 60), (21, 60)]).length := by rw [List.length_append]; omega
  have h2 := k ls H1 locs ⟨hR1, va_S_push hS z1 o1, LR_mono hlen hL, List.forall_mem_cons.mpr ⟨⟨by rw [List.length_append]; simp; omega, fun z => by omega⟩, fun v hv => okV_mono hlen (hU v hv)⟩⟩
  rw [List.map_cons, cv_ref (by omega)] at h2
  rw [hsz]
  exact h2
