/-! enough of the class -/
def pwF (a : Int) : Nat → Int → Int
  | 0, z => z
  | k + 1, z => pwF a k (w64 (z * a))
def biF (need n o : Int) : Nat → Int → Int → Int → Int
  | 0, _, z, _ => z
  | f + 1, i, z, c => biF need n o f (i + 1) (if i < need then z else w64 (z + w64 (w64 (c * pwF (16 - o) i.toNat 1) * pwF o (n - i).toNat 1))) (am_ldiv (w64 (c * (n - i))) (i + 1))
theorem biF_s (need n o : Int) (f : Nat) (i z c : Int) : biF need n o (f + 1) i z c = biF need n o f (i + 1) (if i < need then z else w64 (z + w64 (w64 (c * pwF (16 - o) i.toNat 1) * pwF o (n - i).toNat 1))) (am_ldiv (w64 (c * (n - i))) (i + 1)) := rfl
theorem biF_big (need n o : Int) : ∀ (f : Nat) (i z c : Int), i + f ≤ need → biF need n o f i z c = z
  | 0, _, _, _, _ => rfl
  | f + 1, i, z, c, h => by
    rw [biF_s, if_pos (by omega)]
    exact biF_big need n o f (i + 1) _ _ (by omega)
theorem biF_all : ∀ n : Fin 13, ∀ o : Fin 17, ∀ d : Fin 13, 0 ≤ biF (d.val : Int) (n.val : Int) (o.val : Int) (n.val + 1) 0 0 1 ∧ biF (d.val : Int) (n.val : Int) (o.val : Int) (n.val + 1) 0 0 1 < 1125899906842624 := by decide +kernel
theorem pw16_all : ∀ n : Fin 13, 0 < pwF 16 n.val 1 ∧ pwF 16 n.val 1 < 1125899906842624 := by decide +kernel
def enT (s : Int → Int) (m o n : Int) : Int := if ndN s m o (mn s m 3) = -1 then 0 else biF (ndN s m o (mn s m 3)) n (s 5) (n.toNat + 1) 0 0 1
def enB (n : Int) : Int := pwF 16 n.toNat 1
abbrev enC (s : Int → Int) (m o n : Int) : Prop := (0 ≤ m ∧ m < s 1 ∧ 0 ≤ o ∧ o < s 1 ∧ m ≠ o) ∧ (0 ≤ n ∧ n ≤ 12)
def qEnough (s : Int → Int) (m o n : Int) : Int × Int := if enC s m o n then (1, 0) else (0, 1)
section
variable {X : Xs} {d : Nat} {g : Mem} {s : Int → Int} {N : Int}
theorem c_64_l (a n : Int) (hn : n ≤ 100) (S : Sh) (h : Mem) : ∀ (k : Nat) (i z : Int), i + k = n → 0 ≤ i → EI X d 64 5 [some (.inl a), some (.inl n), some (.inr (.inl z)), none, some (.inl i)] [] S h = some (pwF a k z, S, h) := by
  intro k
  induction k with
  | zero =>
    intro i z hk i0
    rw [e_64_5, if_neg (by omega)]
    rfl
  | succ k ih =>
    intro i z hk i0
    rw [e_64_5, if_pos (by omega), w32_id (by omega) (by omega)]
    exact ih (i + 1) _ (by omega) (by omega)
theorem c_64 (a n : Int) (n0 : 0 ≤ n) (hn : n ≤ 100) (S : Sh) (h : Mem) : MI X d 64 [.inl a, .inl n] S h = some (pwF a n.toNat 1, S, h) := by
  rw [e_64, c_64_l a n hn S h n.toNat 0 1 (by omega) (by omega)]
theorem c_63_l (need n o : Int) (hn : n ≤ 12) (o0 : 0 ≤ o) (o1 : o ≤ 16) (S : Sh) (h : Mem) : ∀ (f : Nat) (i z c : Int), i + f = n + 1 → 0 ≤ i → EI X (d + 1) 63 8 [some (.inl need), some (.inl n), some (.inl o), some (.inr (.inl z)), none, some (.inr (.inl c)), none, some (.inl i)] [] S h = some (biF need n o f i z c, S, h) := by
  intro f
  induction f with
  | zero =>
    intro i z c hk i0
    rw [e_63_8, if_pos (by omega)]
    rfl
  | succ f ih =>
    intro i z c hk i0
    rw [e_63_8, if_neg (by omega), biF_s, w32_id (x := i + 1) (by omega) (by omega), w32_id (x := n - i) (by omega) (by omega), w32_id (x := 16 - o) (by omega) (by omega)]
    by_cases lt : i < need
    · rw [if_pos lt, if_neg (show ¬ i + 1 = 0 by omega), if_pos lt]
      exact ih (i + 1) _ _ (by omega) (by omega)
    · rw [if_neg lt, oC_of (c_64 (16 - o) i i0 (by omega) _ _), oC_of (c_64 o (n - i) (by omega) (by omega) _ _), if_neg (show ¬ i + 1 = 0 by omega), if_neg lt]
      exact ih (i + 1) _ _ (by omega) (by omega)
theorem en_b (hi : Iv N s) {m o n : Int} (h : enC s m o n) : 0 ≤ enT s m o n ∧ enT s m o n < 1125899906842624 ∧ 0 < enB n ∧ enB n < 1125899906842624 := by
  obtain ⟨i0, i1, i2, i3, j2, j3, j4, j5, j6, j7, j8, j9, -⟩ := id hi
  obtain ⟨⟨h1, h2, h3, h4, h5⟩, h6, h7⟩ := h
  have nd := ndN_r hi (m := m) h3 h4 (mn s m 3)
  have p := pw16_all ⟨n.toNat, by omega⟩
  refine ⟨?_, ?_, p.1, p.2⟩ <;> unfold enT <;> split
  · omega
  · rename_i e
    by_cases b : 12 < ndN s m o (mn s m 3)
    · rw [biF_big _ _ _ _ _ _ _ (by omega)]; omega
    · have q := biF_all ⟨n.toNat, by omega⟩ ⟨(s 5).toNat, by omega⟩ ⟨(ndN s m o (mn s m 3)).toNat, by omega⟩
      simp only [show (n.toNat : Int) = n by omega, show ((s 5).toNat : Int) = s 5 by omega, show ((ndN s m o (mn s m 3)).toNat : Int) = ndN s m o (mn s m 3) by omega] at q
      exact q.1
  · omega
  · rename_i e
    by_cases b : 12 < ndN s m o (mn s m 3)
    · rw [biF_big _ _ _ _ _ _ _ (by omega)]; omega
    · have q := biF_all ⟨n.toNat, by omega⟩ ⟨(s 5).toNat, by omega⟩ ⟨(ndN s m o (mn s m 3)).toNat, by omega⟩
      simp only [show (n.toNat : Int) = n by omega, show ((s 5).toNat : Int) = s 5 by omega, show ((ndN s m o (mn s m 3)).toNat : Int) = ndN s m o (mn s m 3) by omega] at q
      exact q.2
end
