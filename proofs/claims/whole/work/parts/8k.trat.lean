/-! TRAYS: write, read, pour -/
theorem trW_0 {g : Mem} {t p : Int} (h : trW g t p = 0) : 0 ≤ t ∧ t < 4 ∧ rd g 8 t ≠ -1 ∧ 0 ≤ p ∧ p < rd g 9 t := by
  unfold trW at h
  split at h
  · omega
  · split at h
    · omega
    · split at h
      · omega
      · omega
theorem trW_r (g : Mem) (t p : Int) : 0 ≤ trW g t p ∧ trW g t p ≤ 3 := by
  unfold trW
  (repeat' split) <;> omega
theorem trW_fr {g g' : Mem} (f : ∀ c i, ((4 ≤ c ∧ c ≤ 9) ∨ (146 ≤ c ∧ c ≤ 148)) → 0 ≤ i → rd g' c i = rd g c i) (t p : Int) : trW g' t p = trW g t p := by
  unfold trW
  by_cases h : 0 ≤ t ∧ t < 4
  · rw [f 8 t (by omega) h.1, f 9 t (by omega) h.1]
  · rw [if_pos h, if_pos h]
/-- one place of a TRAY of both is written alike -/
theorem TR_put {g : Mem} (r : TR g) {t p : Int} (x : Int) (h0 : 0 ≤ t) (h4 : t < 4) (hp : 0 ≤ p) (h6 : p < 60) : TR (wr (wr g (4 + t) p x) 148 (60 * t + p) x) := fun u u0 u4 => by
  have e : ∀ c i, c = 8 ∨ c = 9 ∨ c = 146 ∨ c = 147 → rd (wr (wr g (4 + t) p x) 148 (60 * t + p) x) c i = rd g c i := fun c i hc => by
    rw [rd_wr_ne _ _ _ _ (by omega) (by omega) (by omega), rd_wr_ne _ _ _ _ (by omega) (by omega) (by omega)]
  obtain ⟨r1, r2, r3, r4⟩ := r u u0 u4
  rw [e 8 u (by omega), e 9 u (by omega), e 146 u (by omega), e 147 u (by omega)]
  refine ⟨r1, r2, r3, fun z => ?_⟩
  obtain ⟨d1, d2, d3, d4, d5⟩ := r4 z
  refine ⟨d1, d2, d3, d4, fun i i0 i1 => ?_⟩
  rw [rd_wr_ne _ _ _ _ (by omega) (by omega) (show 4 + u ≠ 148 by omega)]
  by_cases y : u = t ∧ i = p
  · obtain ⟨rfl, rfl⟩ := y
    rw [rd_wr_eq, rd_wr_eq]
  · rw [rd_wr_ix _ _ (by omega) (by omega) (show 60 * u + i ≠ 60 * t + p by omega), rd_wr_ne _ _ _ _ (by omega) (by omega) (show (148 : Int) ≠ 4 + t by omega)]
    by_cases w : u = t
    · subst w
      rw [rd_wr_ix _ _ hp i0 (by omega)]
      exact d5 i i0 i1
    · rw [rd_wr_ne _ _ _ _ (by omega) (by omega) (by omega)]
      exact d5 i i0 i1
theorem FT_tr {g g1 g2 : Mem} (h1 : FT g g1) (h2 : FT g1 g2) : FT g g2 := fun c i a b e f k l => (h2 c i a b e f k l).trans (h1 c i a b e f k l)
theorem FT_wr (g : Mem) {c : Int} (i x : Int) (h : (4 ≤ c ∧ c ≤ 9) ∨ (146 ≤ c ∧ c ≤ 148)) : FT g (wr g c i x) := fun a j h0 h1 h2 h3 h4 h5 => rd_wr_ne _ _ _ _ (by omega) h0 (by omega)
theorem FT_s1 (g : Mem) (x : Int) : FT g (wr g 1 15 x) := fun c i h0 h1 h2 h3 h4 h5 => by
  by_cases z : c = 1
  · subst z; exact rd_wr_ix _ _ (by omega) h1 (by omega)
  · exact rd_wr_ne _ _ _ _ (by omega) h0 z
theorem FT_s2 (g : Mem) (x : Int) : FT g (wr g 143 2 x) := fun c i h0 h1 h2 h3 h4 h5 => by
  by_cases z : c = 143
  · subst z; exact rd_wr_ix _ _ (by omega) h1 (by omega)
  · exact rd_wr_ne _ _ _ _ (by omega) h0 z
theorem TR_s1 {g : Mem} (r : TR g) (x : Int) : TR (wr g 1 15 x) := TR_fr r (fun c i hc h0 => rd_wr_ne _ _ _ _ (by omega) (by omega) (by omega))
theorem TR_s2 {g : Mem} (r : TR g) (x : Int) : TR (wr g 143 2 x) := TR_fr r (fun c i hc h0 => rd_wr_ne _ _ _ _ (by omega) (by omega) (by omega))
theorem wr_sw (g : Mem) {a b : Int} (i j x y : Int) (ha : 0 ≤ a) (hb : 0 ≤ b) (h : a ≠ b) : wr (wr g a i x) b j y = wr (wr g b j y) a i x := by
  funext c k
  unfold wr up
  by_cases z : c = a.toNat ∧ k = i.toNat
  · rw [if_neg (show ¬ (c = b.toNat ∧ k = j.toNat) by omega), if_pos z, if_pos z]
  · rw [if_neg z]
    by_cases w : c = b.toNat ∧ k = j.toNat
    · rw [if_pos w, if_neg z]; try rw [if_pos w]
    · rw [if_neg w, if_neg z]; try rw [if_neg w]
section
variable {X : Xs} {d : Nat} {g : Mem}
theorem p_write (r : TR g) (t p v : Int) : Pr (fun g' => TR g' ∧ FT g g') (MI X (d + 2) 132 [.inr (.inr 1), .inl t, .inl p, .inr (.inl v)] S0 (ov g)) (fun g1 => MI X (d + 2) 209 [.inr (.inr 143), .inl t, .inl p, .inr (.inl v)] S0 (ov g1)) := by
  have hr := trW_r g t p
  by_cases hc : trW g t p = 0
  case neg =>
    have e1 : trW (wr g 1 15 (trW g t p)) t p = trW g t p := trW_fr (fun c i hc h0 => rd_wr_ne _ _ _ _ (by omega) (by omega) (by omega)) t p
    have m8 := m_208 (X := X) (d := d) (TR_s1 r (trW g t p)) t p
    rw [e1] at m8
    refine Pr_eq (v := 0) (g1 := wr g 1 15 (trW g t p)) (g2 := wr (wr g 1 15 (trW g t p)) 143 2 (trW g t p)) ?_ ?_ (st2_eq g _) ⟨st2_tr r _ _, st2_ft _ _ _⟩
    · rw [e_132]
      simp (disch := omega) only [↓K_top, ↓G_top, ↓P_top, ↓K_trs, ↓oC_of (c_107 _ _), ↓oC_of (c_185 _), ↓oK_some, ↓oC_some, ↓if_pos, ↓if_neg, rd_wr_eq, rd_wr_ne, rd_wr_ix, w32_id]
    · rw [e_209]
      simp (disch := omega) only [↓K_mod, ↓oC_of m8, ↓oC_of (m_is0 _), ↓oC_of m_is1, ↓oK_some, ↓oC_some, ↓if_pos, ↓if_neg, rd_wr_eq, rd_wr_ne, rd_wr_ix, w32_id]
  obtain ⟨t0, t4, n1, p0, p1⟩ := trW_0 hc
  obtain ⟨r1, r2, r3, r4⟩ := r t t0 t4
  obtain ⟨d1, d2, d3, d4, d5⟩ := r4 n1
  have n146 : rd g 146 t = rd g 8 t := d1
  refine Pr_eq (v := 1) (g1 := wr (wr g (4 + t) p (cuF (rd g 8 t) v)) 1 15 0) (g2 := wr (wr (wr (wr g (4 + t) p (cuF (rd g 8 t) v)) 1 15 0) 148 (60 * t + p) (cuF (rd g 8 t) v)) 143 2 0) ?_ ?_ ?_ ⟨?_, ?_⟩
  · rw [e_132]
    have q9 : MI X (d + 1) 109 [.inr (.inr 2), .inl t, .inl p, .inr (.inl v)] S0 (ov g) = some (0, S0, ov (wr g (4 + t) p (cuF (rd g 8 t) v))) := by
      rw [e_109]
      simp (disch := omega) only [↓K_trs, ↓G_trs, ↓al_8 _, ↓as_8, ↓al_9 _, ↓as_9, ↓al_rows, ↓al_row, ↓as_row, ↓oC_of (c_112 _ _ _ _)]
    simp (disch := omega) only [↓K_top, ↓G_top, ↓P_top, ↓K_trs, ↓oC_of (c_107 _ _), ↓oC_of q9, ↓oC_of c_184, ↓oK_some, ↓oC_some, ↓if_pos, ↓if_neg, rd_wr_eq, rd_wr_ne, rd_wr_ix, w32_id]
  · have f1 : ∀ c i, ((4 ≤ c ∧ c ≤ 9) ∨ (146 ≤ c ∧ c ≤ 148)) → 0 ≤ i → (c ≠ 4 + t ∨ i ≠ p) → rd (wr (wr g (4 + t) p (cuF (rd g 8 t) v)) 1 15 0) c i = rd g c i := fun c i a b e => by
      rw [rd_wr_ne _ _ _ _ (by omega) (by omega) (by omega)]
      by_cases z : c = 4 + t
      · subst z; exact rd_wr_ix _ _ p0 b (by omega)
      · exact rd_wr_ne _ _ _ _ (by omega) (by omega) z
    have m8 : MI X (d + 1) 208 [.inr (.inr 143), .inl t, .inl p] S0 (ov (wr (wr g (4 + t) p (cuF (rd g 8 t) v)) 1 15 0)) = some (0, S0, ov (wr (wr g (4 + t) p (cuF (rd g 8 t) v)) 1 15 0)) := by
      rw [e_208]
      have x1 := f1 147 t (by omega) t0 (by omega)
      simp (disch := omega) only [↓G_mod, ↓al_147 _, ↓e_205, ↓oK_some, ↓oC_some, ↓if_pos, ↓if_neg, rd_wr_eq, rd_wr_ne, rd_wr_ix, w32_id, x1]
    have x2 := f1 146 t (by omega) t0 (by omega)
    rw [e_209]
    simp (disch := omega) only [↓K_mod, ↓G_mod, ↓oC_of m8, ↓oC_of (m_is0 _), ↓oC_of m_is1, ↓oC_of (m_206 _ _ _ _), ↓al_146 _, ↓as_148, x2, n146, ↓oK_some, ↓oC_some, ↓if_pos, ↓if_neg, rd_wr_eq, rd_wr_ne, rd_wr_ix, w32_id]
  · rw [rd_wr_ne _ _ _ _ (by omega) (by omega) (by omega), rd_wr_ne _ _ _ _ (by omega) (by omega) (by omega), rd_wr_eq, rd_wr_eq]
  · rw [wr_sw (wr g (4 + t) p (cuF (rd g 8 t) v)) 15 (60 * t + p) 0 _ (by omega) (by omega) (by omega)]
    exact st2_tr (TR_put r _ t0 t4 p0 (by omega)) 0 0
  · exact FT_tr (FT_tr (FT_tr (FT_wr _ _ _ (by omega)) (FT_s1 _ _)) (FT_wr _ _ _ (by omega))) (FT_s2 _ _)
theorem p_read (r : TR g) (t p : Int) : Pr (fun g' => TR g' ∧ FT g g') (MI X (d + 2) 133 [.inr (.inr 1), .inl t, .inl p] S0 (ov g)) (fun g1 => MI X (d + 2) 210 [.inr (.inr 143), .inl t, .inl p] S0 (ov g1)) := by
  have hr := trW_r g t p
  have e1 : trW (wr g 1 15 (trW g t p)) t p = trW g t p := trW_fr (fun c i hc h0 => rd_wr_ne _ _ _ _ (by omega) (by omega) (by omega)) t p
  have m8 := m_208 (X := X) (d := d) (TR_s1 r (trW g t p)) t p
  rw [e1] at m8
  by_cases hc : trW g t p = 0
  case neg =>
    refine Pr_eq (v := -1) (g1 := wr g 1 15 (trW g t p)) (g2 := wr (wr g 1 15 (trW g t p)) 143 2 (trW g t p)) ?_ ?_ (st2_eq g _) ⟨st2_tr r _ _, st2_ft _ _ _⟩
    · rw [e_133]
      simp (disch := omega) only [↓K_top, ↓G_top, ↓P_top, ↓K_trs, ↓oC_of (c_107 _ _), ↓oC_of (c_183 _), ↓oK_some, ↓oC_some, ↓if_pos, ↓if_neg, rd_wr_eq, rd_wr_ne, rd_wr_ix, w32_id]
    · rw [e_210]
      simp (disch := omega) only [↓K_mod, ↓G_mod, ↓P_mod, ↓al_144 _, ↓as_144, ↓oC_of m8, ↓oK_some, ↓oC_some, ↓if_pos, ↓if_neg, rd_wr_eq, rd_wr_ne, rd_wr_ix, w32_id]
  obtain ⟨t0, t4, n1, p0, p1⟩ := trW_0 hc
  obtain ⟨r1, r2, r3, r4⟩ := r t t0 t4
  obtain ⟨d1, d2, d3, d4, d5⟩ := r4 n1
  rw [hc] at m8
  refine Pr_eq (v := rd g (4 + t) p) (g1 := wr g 1 15 0) (g2 := wr (wr g 1 15 0) 143 2 0) ?_ ?_ (st2_eq g _) ⟨st2_tr r _ _, st2_ft _ _ _⟩
  · rw [e_133]
    have x1 : rd (wr g 1 15 0) (4 + t) p = rd g (4 + t) p := rd_wr_ne _ _ _ _ (by omega) (by omega) (by omega)
    simp (disch := omega) only [↓K_top, ↓G_top, ↓P_top, ↓K_trs, ↓G_trs, ↓al_8 _, ↓as_8, ↓al_9 _, ↓as_9, ↓al_rows, ↓al_row, ↓as_row, ↓oC_of (c_107 _ _), ↓e_110, ↓oK_some, ↓oC_some, ↓if_pos, ↓if_neg, rd_wr_eq, rd_wr_ne, rd_wr_ix, w32_id, x1]
  · rw [e_210]
    have x1 : rd (wr (wr g 1 15 0) 143 2 0) 148 (60 * t + p) = rd g (4 + t) p := by
      rw [rd_wr_ne _ _ _ _ (by omega) (by omega) (by omega), rd_wr_ne _ _ _ _ (by omega) (by omega) (by omega)]
      exact (d5 p p0 p1).symm
    simp (disch := omega) only [↓K_mod, ↓G_mod, ↓P_mod, ↓oC_of m8, ↓al_148, x1, ↓oK_some, ↓oC_some, ↓if_pos, ↓if_neg, rd_wr_eq, rd_wr_ne, rd_wr_ix, w32_id]
end
