/-! VALUE, MOVE, FORCED: the model's plays, whole -/
section
variable {X : Xs} {d : Nat}
theorem nx_eq (up : Bool) (c : Int → Bool) (f : Int → Int) (h0 : c 0 = true) (m0 z0 : Int) :
    nxM up (c 3) (f 3) 3 (nxM up (c 2) (f 2) 2 (nxM up (c 1) (f 1) 1 (nxM up (c 0) (f 0) 0 m0))) = bsF up c f 3 1 (f 0) ∧
    nxZ up (c 3) (f 3) 3 (nxM up (c 2) (f 2) 2 (nxM up (c 1) (f 1) 1 (nxM up (c 0) (f 0) 0 m0))) (nxZ up (c 2) (f 2) 2 (nxM up (c 1) (f 1) 1 (nxM up (c 0) (f 0) 0 m0)) (nxZ up (c 1) (f 1) 1 (nxM up (c 0) (f 0) 0 m0) (nxZ up (c 0) (f 0) 0 m0 z0))) = chF up c f 3 1 (f 0) 0 := by
  have e0 : nxM up (c 0) (f 0) 0 m0 = f 0 := if_pos rfl
  have e1 : nxZ up (c 0) (f 0) 0 m0 z0 = 0 := if_pos rfl
  rw [e0, e1]
  have st : ∀ (a m z : Int), a ≠ 0 → nxM up (c a) (f a) a m = (bif c a then (bif up then am_max m (f a) else am_min m (f a)) else m) ∧ nxZ up (c a) (f a) a m z = (bif c a && (bif up then decide (m < f a) else decide (f a < m)) then a else z) := fun a m z h => ⟨if_neg h, if_neg h⟩
  have mx : ∀ (a m : Int), (bif c a && (bif up then decide (m < f a) else decide (f a < m)) then f a else m) = (bif c a then (bif up then am_max m (f a) else am_min m (f a)) else m) := by
    intro a m
    cases c a
    · rfl
    · cases up
      · simp only [cond_true, cond_false, Bool.true_and]
        unfold am_min
        by_cases q : f a < m
        · have q2 : ¬ m < f a := by omega
          simp only [q, q2, decide_true, cond_true, ↓reduceIte]
        · simp only [q, decide_false, cond_false]
          split <;> omega
      · simp only [cond_true, Bool.true_and]
        unfold am_max
        by_cases q : m < f a
        · simp only [q, decide_true, cond_true, ↓reduceIte]
        · simp only [q, decide_false, cond_false, ↓reduceIte]
  refine ⟨?_, ?_⟩
  · rw [(st 1 _ 0 (by decide)).1, (st 2 _ 0 (by decide)).1, (st 3 _ 0 (by decide)).1]
    rfl
  · rw [(st 1 _ 0 (by decide)).1, (st 2 _ 0 (by decide)).1, (st 1 _ 0 (by decide)).2, (st 2 _ _ (by decide)).2, (st 3 _ _ (by decide)).2]
    have cs : ∀ (k : Nat) (a m z : Int), chF up c f (k + 1) a m z = chF up c f k (a + 1) (bif c a then (bif up then am_max m (f a) else am_min m (f a)) else m) (bif c a && (bif up then decide (m < f a) else decide (f a < m)) then a else z) := by
      intro k a m z
      rw [← mx a m]
      show (bif c a && (bif up then decide (m < f a) else decide (f a < m)) then chF up c f k (a + 1) (f a) a else chF up c f k (a + 1) m z) = _
      cases (c a && (bif up then decide (m < f a) else decide (f a < m))) <;> rfl
    rw [cs, cs, cs]
    rfl
theorem PRG_0 {g : Mem} {L : Int} (h1 : rd g 152 L = -1) (h2 : rd g 154 L = -1) : PRG g L 0 0 0 := ⟨by omega, fun _ => h2, fun q => by omega⟩
theorem pl_ent {turns fo f0 s0 prey shift side par T0 : Int} (hfo : fo = 0 ∨ fo = 1) (a0 : 0 ≤ f0) (a1 : f0 < 6) (b0 : 0 ≤ s0) (b1 : s0 < 6) (hs : side = 0 ∨ side = 1) (hp : prey = if side = 0 then s0 else f0) (hsh : shift = 0 ∨ shift = 1) (ht : turns ≤ 8)
    (hpar : ∀ L, 0 ≤ L → ((L + shift) % 2 = 0 ↔ (T0 + L) % 2 = par)) (n : Nat) (IH : ∀ m, n = m + 1 → plE X d turns fo f0 s0 prey shift side par T0 m) : plE X d turns fo f0 s0 prey shift side par T0 n := by
  intro L s N g L0 hL sv hi hN hd h6 h7 h10 t1 t2
  have st := fun (a m z : Int) (ha : a = 0 ∨ a = 1 ∨ a = 2 ∨ a = 3) (g : Mem) (sv : SV g L s) (pg : PRG g L a m z) => pl_step (X := X) (d := d) hfo a0 a1 b0 b1 hs hp hsh ht hpar n IH L s N L0 hL hi hN hd h6 h7 h10 a m z ha g sv pg
  obtain ⟨g1, x1, p1, s1, f1⟩ := st 0 0 0 (Or.inl rfl) g sv (PRG_0 t1 t2)
  obtain ⟨g2, x2, p2, s2, f2⟩ := st 1 _ _ (Or.inr (Or.inl rfl)) g1 s1 p1
  obtain ⟨g3, x3, p3, s3, f3⟩ := st 2 _ _ (Or.inr (Or.inr (Or.inl rfl))) g2 s2 p2
  obtain ⟨g4, x4, p4, s4, f4⟩ := st 3 _ _ (Or.inr (Or.inr (Or.inr rfl))) g3 s3 p3
  have e := nx_eq (decide (s 10 % 2 = par)) (fun a => decide (caB (boN s) a)) (fun a => vaB (lfX fo side) par n (plB (boN s) a)) (by simp only [caB_0, decide_true]) 0 0
  obtain ⟨q1, q2, q3⟩ := p4
  obtain ⟨q4, q5, q6⟩ := q3 (by omega)
  refine ⟨g4, x1.trans (x2.trans (x3.trans x4)), by rw [q1]; rfl, ?_, ?_, s4, FP_tr (FP_tr (FP_tr f1 f2) f3) f4⟩
  · rw [q4]
    refine Eq.trans e.1 ?_
    obtain ⟨i0, i1, i2, i3, j2, j3, j4, j5, j6, j7, j8, j9, it, im, iw, ia, ih, i6, iu⟩ := id hi
    obtain ⟨u0, u1, u2, u3, u4, u5, u6, -⟩ := iu hd
    rw [vaB, if_neg]
    · rfl
    · simp only [bo_all]
      omega
  · rw [q5]
    exact e.2
theorem pl_enter {turns fo f0 s0 prey shift side par T0 : Int} (hfo : fo = 0 ∨ fo = 1) (a0 : 0 ≤ f0) (a1 : f0 < 6) (b0 : 0 ≤ s0) (b1 : s0 < 6) (hs : side = 0 ∨ side = 1) (hp : prey = if side = 0 then s0 else f0) (hsh : shift = 0 ∨ shift = 1) (ht : turns ≤ 8)
    (hpar : ∀ L, 0 ≤ L → ((L + shift) % 2 = 0 ↔ (T0 + L) % 2 = par)) : ∀ n : Nat, plE X d turns fo f0 s0 prey shift side par T0 n := by
  intro n
  induction n with
  | zero => exact pl_ent hfo a0 a1 b0 b1 hs hp hsh ht hpar 0 (fun m e => absurd e (by omega))
  | succ n ih => exact pl_ent hfo a0 a1 b0 b1 hs hp hsh ht hpar (n + 1) (fun m e => by
      have : m = n := by omega
      subst this
      exact ih)
end
