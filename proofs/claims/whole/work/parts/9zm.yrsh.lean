/-! YEARS told, the model: the head of a STEP -/
section
variable {X : Xs} {d : Nat} {g : Mem} {t : Int → Int} {n q : Int}
theorem m_244_h (hr : txR t n) (mg : Mg t n g q) {w np ns D : Int} (hw : wdP t n q = w) (h99 : rd g 144 1899 = np) (h22 : rd g 143 22 = D) (h23 : rd g 143 23 = ns) (n0 : 0 ≤ np) (n1 : np ≤ 60) : MI X (d + 12) 244 [.inr (.inr 143)] S0 (ov g) = if pmP w < 12 ∨ 22 < pmP w ∨ (pmP w = 21 ∧ D = 0) then W1 (MI X (d + 11) 221 [.inr (.inr 143), .inl 2] S0 (ov g)) else if pmP w ≠ 21 ∧ ns = 30 then W1 (MI X (d + 11) 221 [.inr (.inr 143), .inl 6] S0 (ov g)) else EI X (d + 12) 244 97 [some (.inr (.inr 143)), some (.inl (pmP w)), some (.inl np), some (.inl (1992 + 6 * np)), some (.inl (if pmP w = 19 ∨ pmP w = 20 then 1 else 0)), none] [] S0 (ov g) := by
  have ea : w32 (1992 + w32 (6 * np)) = 1992 + 6 * np := by
    rw [w32_id (x := 6 * np) (by omega) (by omega)]
    exact w32_id (by omega) (by omega)
  rw [e_244]
  simp only [↓K_mod, ↓oC_of (m_220 hr mg.1 mg.2.1), hw]
  rw [(G_mod g _ _).1, al_144 X g (i := 1899) (by omega) (by omega), h99, ea]
  generalize pmP w = r
  have g22 : ∀ {A : Type} (nn : A) (f : Int → A), oK (getf S0 (ov g) 11 143 22) nn f = f D := fun nn f => by
    simp only [↓G_mod, h22]
  have g23 : ∀ {A : Type} (nn : A) (f : Int → A), oK (getf S0 (ov g) 11 143 23) nn f = f ns := fun nn f => by
    simp only [↓G_mod, h23]
  by_cases r19 : r = 19
  · subst r19
    rw [if_pos (show (19 : Int) = 19 from rfl), if_neg (show ¬ (19 : Int) < 12 by omega), if_neg (show ¬ (22 : Int) < 19 by omega), if_neg (show ¬ (19 : Int) = 21 by omega), g23, if_neg (show ¬ ((19 : Int) < 12 ∨ (22 : Int) < 19 ∨ ((19 : Int) = 21 ∧ D = 0)) by omega), if_pos (show (19 : Int) = 19 ∨ (19 : Int) = 20 by omega)]
    by_cases z : ns = 30
    · rw [if_pos z, if_pos (show (19 : Int) ≠ 21 ∧ ns = 30 by omega), if_neg (show ¬ (19 : Int) = 21 by omega)]
    · rw [if_neg z, if_neg (show ¬ ((19 : Int) ≠ 21 ∧ ns = 30) by omega), if_neg (show ¬ (19 : Int) = 21 by omega)]
  rw [if_neg r19]
  by_cases r20 : r = 20
  · subst r20
    rw [if_pos (show (20 : Int) = 20 from rfl), if_neg (show ¬ (20 : Int) < 12 by omega), if_neg (show ¬ (22 : Int) < 20 by omega), if_neg (show ¬ (20 : Int) = 21 by omega), g23, if_neg (show ¬ ((20 : Int) < 12 ∨ (22 : Int) < 20 ∨ ((20 : Int) = 21 ∧ D = 0)) by omega), if_pos (show (20 : Int) = 19 ∨ (20 : Int) = 20 by omega)]
    by_cases z : ns = 30
    · rw [if_pos z, if_pos (show (20 : Int) ≠ 21 ∧ ns = 30 by omega), if_neg (show ¬ (20 : Int) = 21 by omega)]
    · rw [if_neg z, if_neg (show ¬ ((20 : Int) ≠ 21 ∧ ns = 30) by omega), if_neg (show ¬ (20 : Int) = 21 by omega)]
  rw [if_neg r20, if_neg (show ¬ (r = 19 ∨ r = 20) by omega)]
  by_cases lo : r < 12
  · rw [if_pos lo, if_pos (Or.inl lo)]
  rw [if_neg lo]
  by_cases hi : 22 < r
  · rw [if_pos hi, if_pos (Or.inr (Or.inl hi))]
  rw [if_neg hi]
  by_cases r21 : r = 21
  · subst r21
    rw [if_pos (show (21 : Int) = 21 from rfl), g22]
    by_cases z : D = 0
    · rw [if_pos z, if_pos (Or.inr (Or.inr ⟨rfl, z⟩))]
    · rw [if_neg z, if_pos (show (21 : Int) = 21 from rfl), if_neg (show ¬ ((21 : Int) < 12 ∨ (22 : Int) < 21 ∨ ((21 : Int) = 21 ∧ D = 0)) by omega), if_neg (show ¬ ((21 : Int) ≠ 21 ∧ ns = 30) by omega)]
  · rw [if_neg r21, if_neg r21, g23, if_neg (show ¬ (r < 12 ∨ 22 < r ∨ (r = 21 ∧ D = 0)) by omega)]
    by_cases z : ns = 30
    · rw [if_pos z, if_pos ⟨r21, z⟩]
    · rw [if_neg z, if_neg (fun y => z y.2)]
end
