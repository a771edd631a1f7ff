/-! enough told by both -/
section
variable {X : Xs} {d : Nat} {g : Mem} {s : Int → Int} {N : Int}
theorem c_168 (r : RD g 19 s) (hi : Iv N s) (m o n : Int) : AnC (if enC s m o n then frG g 1 18 19 (enT s m o n) (enB n) else g) (qEnough s m o n) (MI X (d + 2) 168 [.inr (.inr 1), .inl m, .inl o, .inl n] S0 (ov g)) := by
  have hb := isD19
  have hr := r
  obtain ⟨r0, r1, r2, rt, rm, rw', r6, r7⟩ := r
  obtain ⟨i0, i1, i2, i3, j2, j3, j4, j5, j6, j7, j8, j9, it, im, -⟩ := id hi
  rw [e_168]
  simp only [↓K_top, ↓G_top, ↓P_top, ↓K_daw hb, ↓oC_of (c_24 hb hr _ _), ↓if_b2i]
  unfold qEnough
  have bad : ¬ enC s m o n → AnC (if enC s m o n then frG g 1 18 19 (enT s m o n) (enB n) else g) (if enC s m o n then (1, 0) else (0, 1)) (oC (MI X (d + 1) 185 [.inr (.inr 1), .inl 1] S0 (ov g)) fun r S m => if r = 0 ∨ r = 1 then some (r, S, m) else none) := fun h => by
    rw [if_neg h, if_neg h, oC_of (c_185 1), if_pos (Or.inl rfl)]
    exact Ok_some ⟨rfl, rd_wr_eq _ _ _ _, FC_st _ _⟩
  by_cases h1 : 0 ≤ m ∧ m < s 1 ∧ 0 ≤ o ∧ o < s 1 ∧ m ≠ o
  case neg => rw [if_neg h1]; exact bad (fun z => h1 z.1)
  by_cases h2 : n < 0
  · rw [if_pos h1, if_pos h2]; exact bad (fun z => by omega)
  by_cases h3 : 12 < n
  · rw [if_pos h1, if_neg h2, if_pos h3]; exact bad (fun z => by omega)
  have y : enC s m o n := ⟨h1, by omega⟩
  obtain ⟨b1, b2, b3, b4⟩ := en_b hi y
  obtain ⟨z1, z2, z3, z4, z5⟩ := id h1
  have m3 := im m z1 z2
  have q := c_55 (X := X) (d := d) hb hr hi m o (mn s m 3) z1 z2 z3 z4 (by omega) (by omega)
  have a5 : rd g (19 + 1) 3 = s 5 := r2 3 (by omega) (by omega)
  have a9 : rd g (19 + 9) m = mn s m 3 := (rm m z1 z2).2.2.2
  have p16 : MI X (d + 1) 64 [.inl 16, .inl n] S0 (ov g) = some (enB n, S0, ov g) := c_64 16 n (by omega) (by omega) _ _
  have q6 := c_186 (X := X) (d := d + 1) (g := g) b1 (show enT s m o n < 9223372036854775808 by omega) b3 b4
  rw [if_pos h1, if_neg h2, if_neg h3, if_pos y, if_pos y]
  have fin : AnC (frG g 1 18 19 (enT s m o n) (enB n)) (1, 0) (oC (MI X (d + 1) 186 [.inr (.inr 1), .inr (.inl (enT s m o n)), .inr (.inl (enB n))] S0 (ov g)) fun r11 S11 m11 => if kd S11 1 = 10 then (oC (MI X (d + 1) 184 [.inr (.inr 1)] S11 m11) fun r12 S12 m12 => if r12 = 0 ∨ r12 = 1 then some (r12, S12, m12) else none) else none) := by
    rw [oC_of q6, K_top, oC_of c_184, if_pos (Or.inr rfl)]
    exact Ok_some ⟨rfl, rd_wr_eq _ _ _ _, FC_st _ _⟩
  simp (disch := omega) only [↓K_top, ↓G_top, ↓P_top, ↓G_daw hb, ↓al_D9 _ hb, ↓al_D1 _ hb, a9, a5, ↓oC_of q]
  by_cases e : ndN s m o (mn s m 3) = -1
  · have t0 : enT s m o n = 0 := if_pos e
    rw [t0] at fin
    rw [if_pos e, t0, oC_of p16, K_top]
    exact fin
  · have t0 : enT s m o n = biF (ndN s m o (mn s m 3)) n (s 5) (n.toNat + 1) 0 0 1 := if_neg e
    have p63 : MI X (d + 1) 63 [.inl (ndN s m o (mn s m 3)), .inl n, .inl (s 5)] S0 (ov g) = some (enT s m o n, S0, ov g) := by
      rw [e_63, c_63_l _ n (s 5) (by omega) j8 j9 S0 (ov g) (n.toNat + 1) 0 0 1 (by omega) (by omega), t0]
    rw [if_neg e, oC_of p63, oC_of p16, K_top]
    exact fin
theorem m_314 (r : RM g s) (hi : Iv N s) (m o n : Int) : AnM (if enC s m o n then frG g 143 3 4 (enT s m o n) (enB n) else g) (qEnough s m o n) (MI X (d + 5) 314 [.inr (.inr 143), .inl m, .inl o, .inl n] S0 (ov g)) := by
  obtain ⟨i0, i1, i2, i3, j2, j3, j4, j5, j6, j7, j8, j9, it, im, -⟩ := id hi
  rw [e_314]
  simp only [↓K_mod, ↓oC_of (m_248 r _ _), ↓oC_of (m_212 _ _ _ _ _), ↓if_b2i]
  unfold qEnough
  have bad : ¬ enC s m o n → AnM (if enC s m o n then frG g 143 3 4 (enT s m o n) (enB n) else g) (if enC s m o n then (1, 0) else (0, 1)) (oC (MI X (d + 4) 200 [.inr (.inr 143), .inl 1] S0 (ov g)) fun r S m => if r = 0 ∨ r = 1 then some (r, S, m) else none) := fun h => by
    rw [if_neg h, if_neg h, oC_of (m_200 1), show b2i ((1 : Int) = 0) = 0 from rfl, if_pos (Or.inl rfl)]
    exact Ok_some ⟨rfl, rd_wr_eq _ _ _ _, FN_st _ _⟩
  by_cases h1 : 0 ≤ m ∧ m < s 1 ∧ 0 ≤ o ∧ o < s 1 ∧ m ≠ o
  case neg => rw [if_neg h1]; exact bad (fun z => h1 z.1)
  by_cases h2 : 0 ≤ n ∧ n ≤ 12
  case neg => rw [if_pos h1, if_neg h2]; exact bad (fun z => h2 z.2)
  have y : enC s m o n := ⟨h1, h2⟩
  obtain ⟨b1, b2, b3, b4⟩ := en_b hi y
  obtain ⟨z1, z2, z3, z4, z5⟩ := id h1
  rw [if_pos h1, if_pos h2, if_pos y, if_pos y]
  refine m_314_a (d := d + 4) m o n _ 13 0 g (by omega) (by omega) (fun i a b => by omega) (fun g1 f1 lq1 => ?_)
  refine m_314_c (d := d + 4) (g := g) hi m o n h2.2 _ (fun L z g2 r2 f2 lq eL ez => ?_) n.toNat 0 1 oneL g1 (by omega) (by omega) (RM_157 r f1) f1 lq1 rfl rfl
  have q := m_301 (X := X) (d := d) r2 hi m o z1 z2 z3 z4
  have nd := ndN_r hi (m := m) z3 z4 (mn s m 3)
  have on : orF (ndN s m o (mn s m 3)) = ndN s m o (mn s m 3) ∨ orF (ndN s m o (mn s m 3)) = 1000000 := by unfold orF; split <;> omega
  have big : 13 ≤ orF (ndN s m o (mn s m 3)) → enT s m o n = 0 := fun h => by
    unfold enT
    by_cases e : ndN s m o (mn s m 3) = -1
    · rw [if_pos e]
    · have : orF (ndN s m o (mn s m 3)) = ndN s m o (mn s m 3) := if_neg e
      rw [if_neg e, biF_big _ _ _ _ _ _ _ (by omega)]
  have ev : smL (L.drop (orF (ndN s m o (mn s m 3))).toNat) 0 = enT s m o n := by
    by_cases h : 13 ≤ orF (ndN s m o (mn s m 3))
    · rw [big h, List.drop_eq_nil_of_le (by rw [lq.1]; omega)]
      rfl
    · have e : ¬ ndN s m o (mn s m 3) = -1 := fun z => h (by unfold orF; rw [if_pos z]; omega)
      have e2 : orF (ndN s m o (mn s m 3)) = ndN s m o (mn s m 3) := if_neg e
      have q := en_all ⟨n.toNat, by omega⟩ ⟨(s 5).toNat, by omega⟩ ⟨(ndN s m o (mn s m 3)).toNat, by omega⟩
      simp only [show (n.toNat : Int) = n by omega, show ((s 5).toNat : Int) = s 5 by omega, show ((ndN s m o (mn s m 3)).toNat : Int) = ndN s m o (mn s m 3) by omega] at q
      rw [e2, eL, q]
      unfold enT
      rw [if_neg e]
  have lp : EI X (d + 4 + 1) 314 164 [some (.inr (.inr 143)), none, none, none, some (.inr (.inl z)), none, some (.inr (.inl 0)), none, some (.inl (orF (ndN s m o (mn s m 3))))] [] S0 (ov g2) = oC (MI X (d + 4) 204 [.inr (.inr 143), .inr (.inl (enT s m o n)), .inr (.inl (enB n))] S0 (ov g2)) fun r1 S1 m1 => if r1 = 0 ∨ r1 = 1 then some (r1, S1, m1) else none := by
    by_cases h : 13 ≤ orF (ndN s m o (mn s m 3))
    · rw [e_314_164, if_neg (by omega), K_mod, big h, ez]
      rfl
    · have e0 : 0 ≤ orF (ndN s m o (mn s m 3)) := by unfold orF; split <;> omega
      rw [m_314_d (d := d + 4) lq z (13 - orF (ndN s m o (mn s m 3))).toNat _ 0 (by omega) e0, ev, ez]
      rfl
  rw [e_314_66, if_neg (show ¬ n < n by omega), K_mod, oC_of q, lp, oC_of (m_204 (d := d + 3) b1 (by omega) b3 b4), if_pos (Or.inr rfl)]
  refine Ok_some ⟨rfl, rd_wr_eq _ _ _ _, fun c i a b e f => ?_⟩
  rw [show ∀ h : Mem, rd (wr h 143 2 0) c i = rd h c i from fun h => by
    by_cases z : c = 143
    · subst z; exact rd_wr_ix h 0 (by omega) b (by omega)
    · exact rd_wr_ne h 2 i 0 (by omega) a z]
  have c157 : c ≠ 157 := fun z => e (by unfold ScM; omega)
  unfold frG
  by_cases k : c = 143
  · subst k
    by_cases k4 : i = 4
    · subst k4; rw [rd_wr_eq, rd_wr_eq]
    · rw [rd_wr_ix _ _ (by omega) b k4, rd_wr_ix _ _ (by omega) b k4]
      by_cases k3 : i = 3
      · subst k3; rw [rd_wr_eq, rd_wr_eq]
      · rw [rd_wr_ix _ _ (by omega) b k3, rd_wr_ix _ _ (by omega) b k3]
        exact f2 143 i a (by omega)
  · rw [rd_wr_ne _ _ _ _ (by omega) a k, rd_wr_ne _ _ _ _ (by omega) a k, rd_wr_ne _ _ _ _ (by omega) a k, rd_wr_ne _ _ _ _ (by omega) a k]
    exact f2 c i a c157
end
