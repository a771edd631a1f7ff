/-! YEARS told, the model: a new row -/
section
variable {X : Xs} {d : Nat} {g : Mem} {np ns D a r o : Int}
theorem m_244_97 (h22 : rd g 143 22 = D) (h23 : rd g 143 23 = ns) (a0 : 0 ≤ a) (a1 : a + 6 ≤ 3768) (s0 : 0 ≤ ns) (s1 : ns < 100) : EI X (d + 1) 244 97 [some (.inr (.inr 143)), some (.inl r), some (.inl np), some (.inl a), some (.inl o), none] [] S0 (ov g) = if o ≠ 0 ∧ D = 3 then W1 (MI X d 221 [.inr (.inr 143), .inl 7] S0 (ov g)) else EI X (d + 1) 244 147 [some (.inr (.inr 143)), some (.inl r), some (.inl np), some (.inl a), some (.inl o), some (.inl 1)] [] S0 (ov (wr (wr g 143 23 (ns + (if r = 21 then 0 else 1))) 144 a r)) := by
  have e0 : w32 (ns + 0) = ns + 0 := w32_id (by omega) (by omega)
  have e1 : w32 (ns + 1) = ns + 1 := w32_id (by omega) (by omega)
  rw [e_244_97]
  simp (disch := omega) only [↓G_mod, h22, h23, ↓P_mod, e0, e1, ↓as_144, ↓K_mod]
  by_cases z : o = 0
  · rw [if_pos z, if_neg (show ¬ (o ≠ 0 ∧ D = 3) from fun y => y.1 z)]
    by_cases w : r = 21
    · rw [if_pos w, if_pos w]
    · rw [if_neg w, if_neg w]
  · rw [if_neg z]
    by_cases w : D = 3
    · rw [if_pos w, if_pos ⟨z, w⟩]
    · rw [if_neg w, if_neg (show ¬ (o ≠ 0 ∧ D = 3) from fun y => w y.2)]
      by_cases v : r = 21
      · rw [if_pos v, if_pos v]
      · rw [if_neg v, if_neg v]
theorem m_244_147 (a0 : 0 ≤ a) (a1 : a + 6 ≤ 3768) : ∀ (k : Nat) (i : Int) (g : Mem), i + k = 6 → 0 ≤ i → ∃ g', EI X (d + 1) 244 147 [some (.inr (.inr 143)), some (.inl r), some (.inl np), some (.inl a), some (.inl o), some (.inl i)] [] S0 (ov g) = EI X (d + 1) 244 147 [some (.inr (.inr 143)), some (.inl r), some (.inl np), some (.inl a), some (.inl o), some (.inl 6)] [] S0 (ov g') ∧ (∀ j, i ≤ j → j < 6 → rd g' 144 (a + j) = 0) ∧ (∀ c j, 0 ≤ c → 0 ≤ j → (c ≠ 144 ∨ j < a + i ∨ a + 6 ≤ j) → rd g' c j = rd g c j) := by
  intro k
  induction k with
  | zero =>
    intro i g hk i0
    have e : i = 6 := by omega
    subst e
    exact ⟨g, rfl, fun j x y => by omega, fun _ _ _ _ _ => rfl⟩
  | succ k ih =>
    intro i g hk i0
    obtain ⟨g', e, z, fr⟩ := ih (i + 1) (wr g 144 (a + i) 0) (by omega) (by omega)
    refine ⟨g', ?_, fun j x y => ?_, fun c j x y v => ?_⟩
    · rw [← e, e_244_147, if_pos (by omega), w32_id (x := a + i) (by omega) (by omega), w32_id (x := i + 1) (by omega) (by omega), (G_mod g _ _).1, as_144 g (i := a + i) 0 (by omega) (by omega)]
    · by_cases w : j = i
      · subst w
        rw [fr _ _ (by omega) (by omega) (by omega)]
        exact rd_wr_eq _ _ _ _
      · exact z j (by omega) y
    · rw [fr c j x y (by omega)]
      by_cases w : c = 144
      · subst w; exact rd_wr_ix _ _ (by omega) y (by omega)
      · exact rd_wr_ne _ _ _ _ (by omega) x w
end
