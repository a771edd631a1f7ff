/-! CELLS: reading and writing the world's list -/
theorem kd_get {S : Sh} {r : Int} {K : Nat} (h : kd S r = K) (hK : K ≠ 99) : ∃ n, S[r.toNat]? = some (K, n) ∧ ln S r = n := by
  unfold kd at h
  unfold ln
  cases hs : S[r.toNat]? with
  | none => rw [hs] at h; exact absurd h.symm hK
  | some q =>
    rw [hs] at h
    obtain ⟨a, b⟩ := q
    dsimp only at h
    subst h
    exact ⟨b, rfl, rfl⟩
theorem kd_pos {S : Sh} {r : Int} {K n : Nat} (hS : xkS S) (h : S[r.toNat]? = some (K, n)) (hK : K ≠ 99) : 0 < r ∧ 0 < r.toNat := by
  have h0 : r.toNat ≠ 0 := fun z => by
    rw [z, hS.1] at h
    cases h
    exact hK rfl
  omega
theorem ws_at {G : GG} {S : Sh} {h : Mem} {k : Nat} {q : Nat × Nat} (hk : 0 < k) (hq : S[k]? = some q) : (wsG G S h)[k - 1]? = some (gz G + (k - 1), cellG G q (h k)) := by
  have hl := (List.getElem?_eq_some_iff.mp hq).1
  unfold wsG
  rw [List.getElem?_map, List.getElem?_range (by omega)]
  have e : k - 1 + 1 = k := by omega
  simp only [Option.map_some, e, List.getD_eq_getElem?_getD, hq, Option.getD_some]
theorem ws_len (G : GG) (S : Sh) (h : Mem) : (wsG G S h).length = S.length - 1 := by simp [wsG]
theorem ws_addr {G : GG} {S : Sh} {h : Mem} {i : Nat} {p : Nat × va_E} (hi : (wsG G S h)[i]? = some p) : p.1 = gz G + i := by
  unfold wsG at hi
  rw [List.getElem?_map] at hi
  cases hr : (List.range (S.length - 1))[i]? with
  | none => rw [hr] at hi; cases hi
  | some z =>
    rw [hr] at hi
    have hz := (List.getElem?_eq_some_iff.mp hr)
    obtain ⟨hz1, hz2⟩ := hz
    rw [List.getElem_range] at hz2
    cases hi
    rw [hz2]
theorem ws_D (G : GG) (S : Sh) (h : Mem) : va_D (gA G) (wsG G S h) := by
  refine ⟨fun i j p q hi hj e => ?_, fun k q hk => ?_⟩
  · have a := ws_addr hi
    have b := ws_addr hj
    omega
  · have a := ws_addr hk
    unfold gA
    omega
theorem ws_up {G : GG} {S : Sh} {h h' : Mem} {k : Nat} {q : Nat × Nat} {e : va_E} (hk : 0 < k) (hq : S[k]? = some q) (h1 : ∀ a, a ≠ k → h' a = h a) (he : e = cellG G q (h' k)) : (wsG G S h).set (k - 1) (gz G + (k - 1), e) = wsG G S h' := by
  have hl := (List.getElem?_eq_some_iff.mp hq).1
  apply List.ext_getElem?
  intro i
  by_cases hi : i = k - 1
  · subst hi
    rw [List.getElem?_set_self (by rw [ws_len]; omega), ws_at hk hq, he]
  · rw [List.getElem?_set_ne (fun z => hi z.symm)]
    unfold wsG
    rw [List.getElem?_map, List.getElem?_map]
    cases hr : (List.range (S.length - 1))[i]? with
    | none => rfl
    | some z =>
      obtain ⟨hz1, hz2⟩ := List.getElem?_eq_some_iff.mp hr
      rw [List.getElem_range] at hz2
      subst hz2
      simp only [Option.map_some]
      rw [h1 (i + 1) (by omega)]
theorem up_at (h : Mem) (k j : Nat) (x : Int) : up h k j x k = fun b => if b = j then x else h k b := by
  funext b
  simp [up]
theorem up_ne (h : Mem) (k j : Nat) (x : Int) {a : Nat} (ha : a ≠ k) : up h k j x a = h a := by
  funext b
  simp [up, ha]
theorem okM_up {S : Sh} {h : Mem} {k j : Nat} {q : Nat × Nat} {x : Int} (hM : okM S h) (hq : S[k]? = some q) (hx : xkT S.length (tgK q.1 j) x) : okM S (up h k j x) := by
  have hl := (List.getElem?_eq_some_iff.mp hq).1
  refine ⟨fun a p hp b hb => ?_, fun a ha b => ?_⟩
  · by_cases e : a = k
    · subst e
      cases hq.symm.trans hp
      rw [up_at]
      dsimp only
      split
      · next e2 => rw [e2]; exact hx
      · exact hM.1 a q hq b hb
    · rw [up_ne h k j x e]
      exact hM.1 a p hp b hb
  · rw [up_ne h k j x (by omega)]
    exact hM.2 a ha b
theorem cpy_at (h : Mem) (k : Nat) (f : Nat → Int) (sp dp n : Nat) : cpy h k f sp dp n k = fun b => if dp ≤ b ∧ b < dp + n then f (sp + (b - dp)) else h k b := by
  funext b
  simp [cpy]
theorem cpy_ne (h : Mem) (k : Nat) (f : Nat → Int) (sp dp n : Nat) {a : Nat} (ha : a ≠ k) : cpy h k f sp dp n a = h a := by
  funext b
  simp [cpy, ha]
theorem okM_cpy {S : Sh} {h : Mem} {k sp dp n : Nat} {f : Nat → Int} {q : Nat × Nat} (hM : okM S h) (hq : S[k]? = some q) (hx : ∀ j, j < n → dp + j < q.2 → xkT S.length (tgK q.1 (dp + j)) (f (sp + j))) : okM S (cpy h k f sp dp n) := by
  have hl := (List.getElem?_eq_some_iff.mp hq).1
  refine ⟨fun a p hp b hb => ?_, fun a ha b => ?_⟩
  · by_cases e : a = k
    · subst e
      cases hq.symm.trans hp
      rw [cpy_at]
      dsimp only
      split
      · next e2 =>
        have := hx (b - dp) (by omega) (by omega)
        rwa [show dp + (b - dp) = b by omega] at this
      · exact hM.1 a q hq b hb
    · rw [cpy_ne h k f sp dp n e]
      exact hM.1 a p hp b hb
  · rw [cpy_ne h k f sp dp n (by omega)]
    exact hM.2 a ha b
theorem cell_i {G : GG} {n : Nat} {f : Nat → Int} {K : Nat} (hK : K = 20 ∨ K = 22 ∨ K = 23) : cellG G (K, n) f = .inl (gC G K, n, .inl fun j => Int32.ofInt (f j)) := by
  rcases hK with rfl | rfl | rfl <;> rfl
theorem cell_l {G : GG} {n : Nat} {f : Nat → Int} : cellG G (21, n) f = .inl (gC G 21, n, .inr (.inl fun j => Int64.ofInt (f j))) := rfl
theorem cell_q {G : GG} {n : Nat} {f : Nat → Int} {K : Nat} (hK : K = 24 ∨ K = 25) : cellG G (K, n) f = .inl (gC G K, n, .inr (.inr (.inr (.inr fun j => cvR (gz G) (f j))))) := by
  rcases hK with rfl | rfl <;> rfl
theorem cell_o {G : GG} {n : Nat} {f : Nat → Int} {K : Nat} (hK : K < 12) : cellG G (K, n) f = .inr (K, (List.range n).map fun j => fV (gz G) (tagF (tyC K j)) (f j)) := by
  unfold cellG
  rw [if_pos hK]
theorem cv_r (G : GG) (r : Int) : cv G (.inr (.inr r)) = if r < 0 then gR G r else if r = 0 then .null else .ref (gz G + (r.toNat - 1)) := rfl
theorem cv_ref {G : GG} {r : Int} (h : 0 < r) : cv G (.inr (.inr r)) = .ref (gz G + (r.toNat - 1)) := by
  rw [cv_r, if_neg (by omega), if_neg (by omega)]
theorem cv_ro {G : GG} {r : Int} (h : r < 0) : cv G (.inr (.inr r)) = gR G r := by
  rw [cv_r, if_pos h]
theorem rf_cv {G : GG} {r : Int} (h : 0 ≤ r) : va_rf (cvR (gz G) r) = cv G (.inr (.inr r)) := by
  rw [cv_r]
  unfold cvR adr
  by_cases h0 : r = 0
  · subst h0; rfl
  · rw [if_neg (by omega), if_neg (by omega), if_neg h0]
    rfl
