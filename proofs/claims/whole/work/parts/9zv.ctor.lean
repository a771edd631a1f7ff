/-! the constructors: rules over the growing heap; the words -/
def Tk (k : Nat) : Sh := S0.take k
theorem nlit {n : Nat} : ((no_index (OfNat.ofNat n) : Nat) : Int) = (OfNat.ofNat n : Int) := rfl
def Sk (k : Nat) (P : Mem → Prop) (o : Option Rs) : Prop := ∃ v g, o = some (v, Tk k, g) ∧ P g
def Fn (a e : Int) (h g : Mem) : Prop := ∀ c j, 0 ≤ c → 0 ≤ j → (c < a ∨ e ≤ c) → rd g c j = rd h c j
theorem Fn_tr {a e a1 e1 : Int} {h g g' : Mem} (h1 : Fn a e h g) (h2 : Fn a1 e1 g g') (l1 : a ≤ a1) (l2 : e1 ≤ e) : Fn a e h g' := fun c j x y z => (h2 c j x y (by omega)).trans (h1 c j x y z)
theorem Fn_rf {a e : Int} {h : Mem} : Fn a e h h := fun _ _ _ _ _ => rfl
theorem Fn_wr {a e : Int} (h : Mem) {c0 j0 : Int} (x : Int) (h0 : 0 ≤ c0) (l1 : a ≤ c0) (l2 : c0 < e) : Fn a e h (wr h c0 j0 x) := fun c j y z w => rd_wr_ne _ _ _ _ h0 y (by omega)
theorem Tk_app {k : Nat} {e : Nat × Nat} (h : S0[k]? = some e) : Tk k ++ [e] = Tk (k + 1) := by
  unfold Tk
  rw [List.take_succ, h]
  rfl
theorem Tk_len {k : Nat} (h : Nat.ble k 163 = true) : (Tk k).length = k := by
  unfold Tk
  rw [List.length_take]
  exact Nat.min_eq_left (Nat.le_of_ble_eq_true h)
section
variable {k k' : Nat} {P Q : Mem → Prop} {S : Sh} {h : Mem} {r x : Int} {K j : Nat} {o : Option Rs}
theorem Sk_o {f : Int → Sh → Mem → Option Rs} (e : Sk k' Q o) (c : ∀ v g, Q g → Sk k P (f v (Tk k') g)) : Sk k P (oC o f) := by
  obtain ⟨v, g, e, q⟩ := e
  rw [oC_of e]
  exact c v g q
theorem Sk_some {v : Int} {g : Mem} (q : P g) : Sk k P (some (v, Tk k, g)) := ⟨v, g, rfl, q⟩
theorem Sk_mono (e : Sk k Q o) (c : ∀ g, Q g → P g) : Sk k P o := by
  obtain ⟨v, g, e, q⟩ := e
  exact ⟨v, g, e, c g q⟩
theorem s_put {n : Option Rs} {f : Mem → Option Rs} (hk : kd S r = K) (c : Sk k P (f (wr h r (j : Nat) x))) : Sk k P (oK (putf S h K r j x) n f) := by
  unfold putf
  rw [if_pos hk]
  exact c
theorem s_get {n : Option Rs} {f : Int → Option Rs} (hk : kd S r = K) (c : Sk k P (f (rd h r (j : Nat)))) : Sk k P (oK (getf S h K r j) n f) := by
  unfold getf
  rw [if_pos hk]
  exact c
theorem s_un2 {n : Option Rs} {f : Int → Option Rs} (hx : 0 ≤ x) (c : Sk k P (f x)) : Sk k P (oK (unV 2 (.inr (.inr x))) n f) := by
  show Sk k P (oK (if 0 ≤ x then some x else none) n f)
  rw [if_pos hx]
  exact c
theorem s_un3 {n : Option Rs} {f : Int → Option Rs} (hx : x = 0 ∨ x = 1) (c : Sk k P (f x)) : Sk k P (oK (unV 3 (.inl x)) n f) := by
  show Sk k P (oK (if x = 0 ∨ x = 1 then some x else none) n f)
  rw [if_pos hx]
  exact c
theorem s_kd {a b : Option Rs} (hk : kd S r = K) (c : Sk k P a) : Sk k P (if kd S r = K then a else b) := by
  rw [if_pos hk]
  exact c
theorem s_ast {n : Option Rs} {i : Int} {f : Mem → Option Rs} (hk : kd S r = K) (h0 : 0 ≤ i) (h1 : i < (ln S r : Int)) (c : Sk k P (f (wr h r i x))) : Sk k P (oK (ast S h K r i x) n f) := by
  unfold ast
  rw [if_pos ⟨hk, h0, h1⟩]
  exact c
end
/-- places known -/
abbrev Fc := Int × Int × Int
def Rq (L : List Fc) (h : Mem) : Prop := ∀ q ∈ L, rd h q.1 q.2.1 = q.2.2
def avo (L : List Fc) (r i : Int) : Bool := L.all fun q => decide (0 ≤ q.1) && decide (0 ≤ q.2.1) && !(decide (q.1 = r) && decide (q.2.1 = i))
def avf (L : List Fc) (a e : Int) : Bool := L.all fun q => decide (0 ≤ q.1) && decide (0 ≤ q.2.1) && (decide (q.1 < a) || decide (e ≤ q.1))
def hasq (L : List Fc) (r i x : Int) : Bool := L.any fun q => decide (q.1 = r) && decide (q.2.1 = i) && decide (q.2.2 = x)
theorem Rq_nil {h : Mem} : Rq [] h := fun _ z => by cases z
theorem Rq_fn {L : List Fc} {h g : Mem} {a e : Int} (q : Rq L h) (fn : Fn a e h g) (v : avf L a e = true) : Rq L g := fun p m => by
  have := List.all_eq_true.mp v p m
  simp only [Bool.and_eq_true, Bool.or_eq_true, decide_eq_true_eq] at this
  rw [fn _ _ this.1.1 this.1.2 this.2]
  exact q p m
theorem Rq_wr {L : List Fc} {h : Mem} {r i : Int} (q : Rq L h) (h0 : 0 ≤ i ∧ 0 ≤ r) (v : avo L r i = true) (x : Int) : Rq ((r, i, x) :: L) (wr h r i x) := fun p m => by
  rcases List.mem_cons.mp m with rfl | m
  · exact rd_wr_eq _ _ _ _
  · have := List.all_eq_true.mp v p m
    simp only [Bool.and_eq_true, Bool.not_eq_true', decide_eq_true_eq, Bool.and_eq_false_iff, decide_eq_false_iff_not] at this
    by_cases e : p.1 = r
    · rw [e, rd_wr_ix _ _ h0.1 this.1.2 (by omega), ← e]
      exact q p m
    · rw [rd_wr_ne _ _ _ _ h0.2 this.1.1 e]
      exact q p m
theorem Rq_ap {L L' : List Fc} {h : Mem} (q : Rq L h) (q' : Rq L' h) : Rq (L' ++ L) h := fun p m => by
  rcases List.mem_append.mp m with m | m
  · exact q' p m
  · exact q p m
theorem Rq_has {L : List Fc} {h : Mem} {r i x : Int} (q : Rq L h) (v : hasq L r i x = true) : rd h r i = x := by
  obtain ⟨p, m, e⟩ := List.any_eq_true.mp v
  simp only [Bool.and_eq_true, decide_eq_true_eq] at e
  rw [← e.1.1, ← e.1.2, ← e.2]
  exact q p m
theorem Rq_sub {L L' : List Fc} {h : Mem} (q : Rq L h) (v : (L'.all fun p => hasq L p.1 p.2.1 p.2.2) = true) : Rq L' h := fun p m => Rq_has q (List.all_eq_true.mp v p m)
section
variable {k : Nat} {P : Mem → Prop} {S : Sh} {h h0 : Mem} {r x : Int} {K j : Nat} {L : List Fc} {a e : Int} {n : Option Rs}
theorem s_putq {f : Mem → Option Rs} (ji : Int) (hk : kd S r = K) (hj : ji.toNat = j) (h1 : 0 ≤ ji ∧ 0 ≤ r) (fn : Fn a e h0 h) (q : Rq L h) (ha : a ≤ r ∧ r < e) (hL : avo L r ji = true) (c : ∀ h', Fn a e h0 h' → Rq ((r, ji, x) :: L) h' → Sk k P (f h')) : Sk k P (oK (putf S h K r j x) n f) := by
  unfold putf
  rw [if_pos hk, ← hj]
  exact c (wr h r ji x) (Fn_tr fn (Fn_wr (a := a) (e := e) h x h1.2 ha.1 ha.2) (Int.le_refl _) (Int.le_refl _)) (Rq_wr q h1 hL x)
theorem s_astq {f : Mem → Option Rs} {i : Int} (hk : kd S r = K) (h1 : 0 ≤ i ∧ 0 ≤ r) (h2 : i < (ln S r : Int)) (fn : Fn a e h0 h) (q : Rq L h) (ha : a ≤ r ∧ r < e) (hL : avo L r i = true) (c : ∀ h', Fn a e h0 h' → Rq ((r, i, x) :: L) h' → Sk k P (f h')) : Sk k P (oK (ast S h K r i x) n f) := by
  unfold ast
  rw [if_pos ⟨hk, h1.1, h2⟩]
  exact c (wr h r i x) (Fn_tr fn (Fn_wr (a := a) (e := e) h x h1.2 ha.1 ha.2) (Int.le_refl _) (Int.le_refl _)) (Rq_wr q h1 hL x)
theorem s_getq {f : Int → Option Rs} (ji x : Int) (hk : kd S r = K) (hj : ji.toNat = j) (q : Rq L h) (v : hasq L r ji x = true) (c : Sk k P (f x)) : Sk k P (oK (getf S h K r j) n f) := by
  unfold getf
  have e := Rq_has q v
  unfold rd at e
  rw [if_pos hk, ← hj, e]
  exact c
end
/-- the words -/
def wlp : Nat → Nat → Nat → (Nat → Int) → Option (Nat → Int)
  | 0, _, _, u => some u
  | k + 1, l2, l3, u => if l2 < 26 then (if am_words.getD l3 0 = 32 then wlp k (l2 + 1) (l3 + 1) u else wlp k l2 (l3 + 1) (fun b => if b = l2 then am_lor (am_lshl (u l2) 8) (am_words.getD l3 0) else u b)) else none
section
variable {X : Xs} {d : Nat}
theorem kwd (i : Fin 142) : 0 ≤ am_words.getD i.val 0 ∧ am_words.getD i.val 0 < 128 := by
  revert i
  decide
theorem n_340 (S : Sh) (h : Mem) : MI X (d + 1) 340 [.inr (.inr (-8))] S h = some (142, S, h) := by
  rw [e_340, if_pos (Or.inl rfl)]
  have e : aln X S (-8 + 2) = some 142 := rfl
  have e2 : MI X d 342 [.inr (.inr (-8))] S h = some (0, S, h) := by
    rw [e_342]
    rfl
  rw [e, oK_some, if_pos (Or.inl rfl), oC_of e2]
  rfl
theorem n_341 (S : Sh) (g : Mem) {i : Int} (h1 : 0 ≤ i) (h2 : i < 142) : MI X (d + 4) 341 [.inr (.inr (-8)), .inl i] S g = some (am_words.getD i.toNat 0, S, g) := by
  have k3 := kwd ⟨i.toNat, by omega⟩
  dsimp only at k3
  have e1 : MI X (d + 3) 343 [.inr (.inr (-8))] S g = some (1, S, g) := by
    rw [e_343]
    rfl
  have e2 : MI X (d + 1) 346 [.inl i, .inl 142, .inr (.inr (-10))] S g = some (i, S, g) := by
    rw [e_346, if_neg (by omega), if_pos h2]
  have e3 : MI X (d + 2) 344 [.inl i, .inl 142] S g = some (0, S, g) := by
    rw [e_344, oC_of e2]
  have e4 : aln X S (-8 + 2) = some 142 := rfl
  have ew : aldB S g (-6) i = some (am_words.getD i.toNat 0) := by
    unfold aldB
    rw [if_pos (by decide)]
    have e : am_str (-6) = am_words := rfl
    have l : ((am_words.length : Nat) : Int) = 142 := rfl
    rw [e, if_pos ⟨h1, by rw [l]; exact h2⟩]
  generalize am_words.getD i.toNat 0 = c at k3 ew ⊢
  have c8 : am_i2c (am_and c 255) = c := by
    rw [am_and_255]
    unfold am_i2c
    omega
  have e5 : MI X (d + 3) 345 [.inr (.inr (-8 + 2)), .inl i] S g = some (c, S, g) := by
    rw [e_345, e4, oK_some, oC_of e3, show (-8 + 2 : Int) = -6 from rfl, ew, oK_some, c8, if_pos k3]
  rw [e_341, if_pos (Or.inl rfl), oC_of e1, if_neg (by omega), if_pos (Or.inl rfl), oC_of e5, if_pos k3]
theorem n_85_l {S : Sh} (k1 : kd S 11 = 6) (k2 : kd S 15 = 21) (k3 : ln S 15 = 26) : ∀ (k : Nat) (l2 l3 : Nat) (h : Mem) (u : Nat → Int), l3 + k = 142 → rd h 11 1 = 15 → wlp k l2 l3 (h 15) = some u → ∃ g, EI X (d + 6) 85 48 [some (.inr (.inr 11)), none, some (.inl l2), some (.inl l3), none] [] S h = some (0, S, g) ∧ g 15 = u ∧ ∀ c j, 0 ≤ c → 0 ≤ j → c ≠ 15 → rd g c j = rd h c j := by
  intro k
  induction k with
  | zero =>
    intro l2 l3 h u hk h11 hw
    rw [e_85_48, if_pos (Or.inl rfl), oC_of (n_340 S h), if_neg (by omega)]
    cases hw
    exact ⟨h, rfl, rfl, fun _ _ _ _ _ => rfl⟩
  | succ k ih =>
    intro l2 l3 h u hk h11 hw
    rw [e_85_48, if_pos (Or.inl rfl), oC_of (n_340 S h), if_pos (by omega)]
    unfold wlp at hw
    by_cases c : l2 < 26
    · rw [if_pos c] at hw
      rw [if_pos (by omega), if_pos (Or.inl rfl), oC_of (n_341 S h (by omega) (by omega)), w32_id (x := (l3 : Int) + 1) (by omega) (by omega), Int.toNat_natCast, show (l3 : Int) + 1 = ((l3 + 1 : Nat) : Int) from rfl]
      by_cases e : am_words.getD l3 0 = 32
      · rw [if_pos e] at hw
        rw [if_pos e, w32_id (x := (l2 : Int) + 1) (by omega) (by omega), show (l2 : Int) + 1 = ((l2 + 1 : Nat) : Int) from rfl]
        exact ih (l2 + 1) (l3 + 1) h u (by omega) h11 hw
      · rw [if_neg e] at hw
        rw [if_neg e]
        have g1 : getf S h 6 11 1 = some 15 := by
          unfold getf
          rw [if_pos k1]
          exact congrArg some h11
        have g2 : ald S h 21 15 l2 = some (h 15 l2) := by
          unfold ald
          rw [if_pos ⟨k2, by omega, by rw [k3]; omega⟩]
          rfl
        have g3 : ∀ x, ast S h 21 15 l2 x = some (up h 15 l2 x) := fun x => by
          unfold ast
          rw [if_pos ⟨k2, by omega, by rw [k3]; omega⟩]
          rfl
        rw [g1, oK_some, oK_some, g2, oK_some, g3, oK_some]
        generalize am_lor (am_lshl (h 15 l2) 8) (am_words.getD l3 0) = x at hw ⊢
        have fr : ∀ c j, 0 ≤ c → 0 ≤ j → c ≠ 15 → rd (up h 15 l2 x) c j = rd h c j := fun c j y z w => by
          have e := rd_wr_ne h (a := 15) (b := c) (l2 : Int) j x (by omega) y w
          exact e
        obtain ⟨g, z1, z2, z3⟩ := ih l2 (l3 + 1) (up h 15 l2 x) u (by omega) (by rw [fr _ _ (by omega) (by omega) (by omega)]; exact h11) (by
          have ef : (fun b => if b = l2 then x else h 15 b) = up h 15 l2 x 15 := by
            funext b
            unfold up
            by_cases e : b = l2
            · rw [if_pos e, if_pos ⟨rfl, e⟩]
            · rw [if_neg e, if_neg (fun z => e z.2)]
          rw [← ef]
          exact hw)
        exact ⟨g, z1, z2, fun c j x y z => (z3 c j x y z).trans (fr c j x y z)⟩
    · rw [if_neg c] at hw
      cases hw
theorem wlp_ok : ∃ u, wlp 142 0 0 (fun _ => 0) = some u ∧ ∀ i : Fin 26, u i.val = rsvL.getD i.val 0 := by
  have e : (match wlp 142 0 0 (fun _ => 0) with | some u => decide (∀ i : Fin 26, u i.val = rsvL.getD i.val 0) | none => false) = true := by decide +kernel
  cases h : wlp 142 0 0 (fun _ => 0) with
  | none => rw [h] at e; cases e
  | some u =>
    rw [h] at e
    exact ⟨u, rfl, of_decide_eq_true e⟩
end
