/-! TRAYS: pour -/
/-- what the STATUS of a pour is, by SORTS and sizes of both -/
def poX (f p t a n sf st zf zt : Int) : Int :=
  if ¬ (0 ≤ f ∧ f < 4) ∨ ¬ (0 ≤ t ∧ t < 4) ∨ p < 0 ∨ a < 0 ∨ n < 0 then 1 else if sf = -1 ∨ st = -1 then 2 else if sf ≠ st then 8 else if zf - p < n ∨ zt - a < n then 3 else 0
theorem poX_c {f p t a n sf st zf zt w : Int} (h : poX f p t a n sf st zf zt = w) :
    (w = 1 ∧ f < 0) ∨ (w = 1 ∧ 4 ≤ f) ∨ (w = 1 ∧ (0 ≤ f ∧ f < 4) ∧ t < 0) ∨ (w = 1 ∧ (0 ≤ f ∧ f < 4) ∧ 4 ≤ t) ∨
    (w = 1 ∧ (0 ≤ f ∧ f < 4) ∧ (0 ≤ t ∧ t < 4) ∧ p < 0) ∨ (w = 1 ∧ (0 ≤ f ∧ f < 4) ∧ (0 ≤ t ∧ t < 4) ∧ 0 ≤ p ∧ a < 0) ∨ (w = 1 ∧ (0 ≤ f ∧ f < 4) ∧ (0 ≤ t ∧ t < 4) ∧ 0 ≤ p ∧ 0 ≤ a ∧ n < 0) ∨
    ((0 ≤ f ∧ f < 4) ∧ (0 ≤ t ∧ t < 4) ∧ 0 ≤ p ∧ 0 ≤ a ∧ 0 ≤ n ∧ ((w = 2 ∧ sf = -1) ∨ (w = 2 ∧ sf ≠ -1 ∧ st = -1) ∨ (w = 8 ∧ sf ≠ -1 ∧ st ≠ -1 ∧ sf ≠ st) ∨ (w = 3 ∧ sf ≠ -1 ∧ sf = st ∧ zf - p < n) ∨ (w = 3 ∧ sf ≠ -1 ∧ sf = st ∧ n ≤ zf - p ∧ zt - a < n) ∨ (w = 0 ∧ sf ≠ -1 ∧ sf = st ∧ n ≤ zf - p ∧ n ≤ zt - a))) := by
  unfold poX at h
  by_cases a1 : f < 0
  · rw [if_pos (Or.inl (by omega))] at h; exact Or.inl ⟨h.symm, a1⟩
  by_cases a2 : 4 ≤ f
  · rw [if_pos (Or.inl (by omega))] at h; exact Or.inr (Or.inl ⟨h.symm, a2⟩)
  have f4 : 0 ≤ f ∧ f < 4 := by omega
  by_cases a3 : t < 0
  · rw [if_pos (Or.inr (Or.inl (by omega)))] at h; exact Or.inr (Or.inr (Or.inl ⟨h.symm, f4, a3⟩))
  by_cases a4 : 4 ≤ t
  · rw [if_pos (Or.inr (Or.inl (by omega)))] at h; exact Or.inr (Or.inr (Or.inr (Or.inl ⟨h.symm, f4, a4⟩)))
  have t4 : 0 ≤ t ∧ t < 4 := by omega
  by_cases a5 : p < 0
  · rw [if_pos (Or.inr (Or.inr (Or.inl a5)))] at h; exact Or.inr (Or.inr (Or.inr (Or.inr (Or.inl ⟨h.symm, f4, t4, a5⟩))))
  by_cases a6 : a < 0
  · rw [if_pos (Or.inr (Or.inr (Or.inr (Or.inl a6))))] at h; exact Or.inr (Or.inr (Or.inr (Or.inr (Or.inr (Or.inl ⟨h.symm, f4, t4, by omega, a6⟩)))))
  by_cases a7 : n < 0
  · rw [if_pos (Or.inr (Or.inr (Or.inr (Or.inr a7))))] at h; exact Or.inr (Or.inr (Or.inr (Or.inr (Or.inr (Or.inr (Or.inl ⟨h.symm, f4, t4, by omega, by omega, a7⟩))))))
  rw [if_neg (fun z => by rcases z with z | z | z | z | z <;> omega)] at h
  refine Or.inr (Or.inr (Or.inr (Or.inr (Or.inr (Or.inr (Or.inr ⟨f4, t4, by omega, by omega, by omega, ?_⟩))))))
  by_cases b1 : sf = -1
  · rw [if_pos (Or.inl b1)] at h; exact Or.inl ⟨h.symm, b1⟩
  by_cases b2 : st = -1
  · rw [if_pos (Or.inr b2)] at h; exact Or.inr (Or.inl ⟨h.symm, b1, b2⟩)
  rw [if_neg (fun z => by rcases z with z | z <;> omega)] at h
  by_cases b3 : sf = st
  case neg => rw [if_pos b3] at h; exact Or.inr (Or.inr (Or.inl ⟨h.symm, b1, b2, b3⟩))
  rw [if_neg (fun z => z b3)] at h
  by_cases b4 : zf - p < n
  · rw [if_pos (Or.inl b4)] at h; exact Or.inr (Or.inr (Or.inr (Or.inl ⟨h.symm, b1, b3, b4⟩)))
  by_cases b5 : zt - a < n
  · rw [if_pos (Or.inr b5)] at h; exact Or.inr (Or.inr (Or.inr (Or.inr (Or.inl ⟨h.symm, b1, b3, by omega, b5⟩))))
  rw [if_neg (fun z => by rcases z with z | z <;> omega)] at h
  exact Or.inr (Or.inr (Or.inr (Or.inr (Or.inr ⟨h.symm, b1, b3, by omega, by omega⟩))))
theorem tr_row {t : Int} (h0 : 0 ≤ t) (h4 : t < 4) : kd S0 (4 + t) = 21 ∧ ln S0 (4 + t) = 60 ∧ ∀ j, rT (4 + t).toNat j = none := by
  have hc : t = 0 ∨ t = 1 ∨ t = 2 ∨ t = 3 := by omega
  rcases hc with rfl | rfl | rfl | rfl <;> exact ⟨rfl, rfl, fun _ => rfl⟩
theorem acp_row (X : Xs) (g : Mem) {f t p a n : Int} (f0 : 0 ≤ f) (f4 : f < 4) (t0 : 0 ≤ t) (t4 : t < 4) (p0 : 0 ≤ p) (a0 : 0 ≤ a) (n0 : 0 ≤ n) (h1 : p + n ≤ 60) (h2 : a + n ≤ 60) {A : Type} (x : A) (k : Mem → A) : oK (acp X S0 (ov g) (4 + f) p (4 + t) a n) x k = k (ov (cp g (4 + t) (4 + f) p a n)) := by
  obtain ⟨k1, l1, r1⟩ := tr_row f0 f4
  obtain ⟨k2, l2, r2⟩ := tr_row t0 t4
  rw [acp_pos X g (K := 21) (lr := 60) (lq := 60) (Or.inr rfl) (by omega) k1 k2 l1 l2 r2 r1 p0 a0 n0 (by omega) (by omega)]
  rfl
section
variable {X : Xs} {d : Nat} {g : Mem}
theorem c_105 (f t : Int) (f0 : 0 ≤ f) (f4 : f < 4) (t0 : 0 ≤ t) (t4 : t < 4) : MI X d 105 [.inr (.inr 2), .inl f, .inl t] S0 (ov g) = some (b2i (rd g 8 f = rd g 8 t), S0, ov g) := by
  rw [e_105]; unfold b2i
  simp (disch := omega) only [↓G_trs, ↓al_8 _]
  split <;> rfl
/-- a run of the model's places goes over, one by one -/
theorem m_211_l (f p t a n : Int) (f0 : 0 ≤ f) (f4 : f < 4) (t0 : 0 ≤ t) (t4 : t < 4) (p0 : 0 ≤ p) (a0 : 0 ≤ a) (h1 : p + n ≤ 60) (h2 : a + n ≤ 60) : ∀ (k : Nat) (i : Int) (g : Mem), i + k = n → 0 ≤ i → Ok (fun v g' => v = 1 ∧ rd g' 143 2 = 0 ∧ (∀ j, 0 ≤ j → j < n → rd g' 148 (60 * t + a + j) = if (p < a ∧ j < n - i) ∨ (¬ p < a ∧ i ≤ j) then rd g 148 (60 * f + p + j) else rd g 148 (60 * t + a + j)) ∧ (∀ c j, 0 ≤ c → 0 ≤ j → (c ≠ 143 ∨ j ≠ 2) → (c ≠ 148 ∨ j < 60 * t + a ∨ 60 * t + a + n ≤ j) → rd g' c j = rd g c j)) (EI X (d + 1) 211 118 [some (.inr (.inr 143)), some (.inl f), some (.inl p), some (.inl t), some (.inl a), some (.inl n), some (.inl i), none] [] S0 (ov g)) := by
  intro k
  induction k with
  | zero =>
    intro i g hk hi
    rw [e_211_118, if_neg (by omega)]
    simp (disch := omega) only [↓K_mod, ↓oC_of (m_is0 _), ↓oC_of m_is1, ↓oK_some, ↓oC_some, ↓if_pos, ↓if_neg, rd_wr_eq, rd_wr_ne, rd_wr_ix, w32_id]
    have e : ∀ c j, 0 ≤ c → 0 ≤ j → (c ≠ 143 ∨ j ≠ 2) → rd (wr g 143 2 0) c j = rd g c j := fun c j x y z => by
      by_cases w : c = 143
      · subst w; exact rd_wr_ix _ _ (by omega) y (by omega)
      · exact rd_wr_ne _ _ _ _ (by omega) x w
    refine Ok_some ⟨rfl, rd_wr_eq _ _ _ _, fun j x y => ?_, fun c j x y z w => e c j x y z⟩
    rw [if_neg (by omega)]
    exact e _ _ (by omega) (by omega) (by omega)
  | succ k ih =>
    intro i g hk hi
    rw [e_211_118, if_pos (by omega)]
    by_cases hpa : p < a
    · rw [if_pos hpa]
      simp (disch := omega) only [↓G_mod, w32_id, ↓al_148, ↓as_148]
      refine Ok_mono (ih (i + 1) _ (by omega) (by omega)) ?_
      rintro v g' ⟨q0, q3, q1, q2⟩
      refine ⟨q0, q3, fun j x y => ?_, fun c j x y z w => ?_⟩
      · rw [q1 j x y]
        by_cases z : j < n - (i + 1)
        · rw [if_pos (Or.inl ⟨hpa, z⟩), if_pos (Or.inl ⟨hpa, by omega⟩), rd_wr_ix _ _ (by omega) (by omega) (by omega)]
        · rw [if_neg (by omega)]
          by_cases z2 : j = n - 1 - i
          · rw [if_pos (Or.inl ⟨hpa, by omega⟩), show 60 * t + a + j = 60 * t + a + (n - 1 - i) by omega, rd_wr_eq]
            congr 1
            omega
          · rw [if_neg (by omega), rd_wr_ix _ _ (by omega) (by omega) (by omega)]
      · rw [q2 c j x y z w]
        by_cases z2 : c = 148
        · subst z2; exact rd_wr_ix _ _ (by omega) y (by omega)
        · exact rd_wr_ne _ _ _ _ (by omega) x z2
    · rw [if_neg hpa]
      simp (disch := omega) only [↓G_mod, w32_id, ↓al_148, ↓as_148]
      refine Ok_mono (ih (i + 1) _ (by omega) (by omega)) ?_
      rintro v g' ⟨q0, q3, q1, q2⟩
      refine ⟨q0, q3, fun j x y => ?_, fun c j x y z w => ?_⟩
      · rw [q1 j x y]
        by_cases z : i + 1 ≤ j
        · rw [if_pos (Or.inr ⟨hpa, z⟩), if_pos (Or.inr ⟨hpa, by omega⟩), rd_wr_ix _ _ (by omega) (by omega) (by omega)]
        · rw [if_neg (by omega)]
          by_cases z2 : j = i
          · subst z2
            rw [if_pos (Or.inr ⟨hpa, by omega⟩), rd_wr_eq]
          · rw [if_neg (by omega), rd_wr_ix _ _ (by omega) (by omega) (by omega)]
      · rw [q2 c j x y z w]
        by_cases z2 : c = 148
        · subst z2; exact rd_wr_ix _ _ (by omega) y (by omega)
        · exact rd_wr_ne _ _ _ _ (by omega) x z2
theorem p_pour (r : TR g) (f p t a n : Int) (hp : p < 2147483648) (ha : a < 2147483648) : Pr (fun g' => TR g' ∧ FT g g') (MI X (d + 2) 134 [.inr (.inr 1), .inl f, .inl p, .inl t, .inl a, .inl n] S0 (ov g)) (fun g1 => MI X (d + 2) 211 [.inr (.inr 143), .inl f, .inl p, .inl t, .inl a, .inl n] S0 (ov g1)) := by
  have hx := poX_c (f := f) (p := p) (t := t) (a := a) (n := n) (sf := rd g 8 f) (st := rd g 8 t) (zf := rd g 9 f) (zt := rd g 9 t) rfl
  generalize hw : poX f p t a n (rd g 8 f) (rd g 8 t) (rd g 9 f) (rd g 9 t) = W at hx
  by_cases hW : W = 0
  case neg =>
    have x8 : ∀ c i, c ≠ 1 → 0 ≤ c → rd (wr g 1 15 W) c i = rd g c i := fun c i h0 h => rd_wr_ne _ _ _ _ (by omega) h h0
    refine Pr_eq (v := 0) (g1 := wr g 1 15 W) (g2 := wr (wr g 1 15 W) 143 2 W) ?_ ?_ (st2_eq g W) ⟨st2_tr r _ _, st2_ft _ _ _⟩
    · rw [e_134]
      rcases hx with ⟨rfl, h⟩ | ⟨rfl, h⟩ | ⟨rfl, h, h2⟩ | ⟨rfl, h, h2⟩ | ⟨rfl, h, h2, h3⟩ | ⟨rfl, h, h2, h3, h4⟩ | ⟨rfl, h, h2, h3, h4, h5⟩ | ⟨h, h2, h3, h4, h5, h6⟩
      · simp (disch := omega) only [↓K_top, ↓G_top, ↓P_top, ↓K_trs, ↓oC_of (c_103 _ _ _), ↓if_b2i, ↓oC_of (c_185 _), ↓oK_some, ↓oC_some, ↓if_pos, ↓if_neg, rd_wr_eq, rd_wr_ne, rd_wr_ix, w32_id]
      · simp (disch := omega) only [↓K_top, ↓G_top, ↓P_top, ↓K_trs, ↓oC_of (c_103 _ _ _), ↓if_b2i, ↓oC_of (c_185 _), ↓oK_some, ↓oC_some, ↓if_pos, ↓if_neg, rd_wr_eq, rd_wr_ne, rd_wr_ix, w32_id]
      · simp (disch := omega) only [↓K_top, ↓G_top, ↓P_top, ↓K_trs, ↓oC_of (c_103 _ _ _), ↓if_b2i, ↓oC_of (c_185 _), ↓oK_some, ↓oC_some, ↓if_pos, ↓if_neg, rd_wr_eq, rd_wr_ne, rd_wr_ix, w32_id]
      · simp (disch := omega) only [↓K_top, ↓G_top, ↓P_top, ↓K_trs, ↓oC_of (c_103 _ _ _), ↓if_b2i, ↓oC_of (c_185 _), ↓oK_some, ↓oC_some, ↓if_pos, ↓if_neg, rd_wr_eq, rd_wr_ne, rd_wr_ix, w32_id]
      · simp (disch := omega) only [↓K_top, ↓G_top, ↓P_top, ↓K_trs, ↓oC_of (c_103 _ _ _), ↓if_b2i, ↓oC_of (c_185 _), ↓oK_some, ↓oC_some, ↓if_pos, ↓if_neg, rd_wr_eq, rd_wr_ne, rd_wr_ix, w32_id]
      · simp (disch := omega) only [↓K_top, ↓G_top, ↓P_top, ↓K_trs, ↓oC_of (c_103 _ _ _), ↓if_b2i, ↓oC_of (c_185 _), ↓oK_some, ↓oC_some, ↓if_pos, ↓if_neg, rd_wr_eq, rd_wr_ne, rd_wr_ix, w32_id]
      · simp (disch := omega) only [↓K_top, ↓G_top, ↓P_top, ↓K_trs, ↓oC_of (c_103 _ _ _), ↓if_b2i, ↓oC_of (c_185 _), ↓oK_some, ↓oC_some, ↓if_pos, ↓if_neg, rd_wr_eq, rd_wr_ne, rd_wr_ix, w32_id]
      · obtain ⟨r1, r2, r3, r4⟩ := r f h.1 h.2
        obtain ⟨s1, s2, s3, s4⟩ := r t h2.1 h2.2
        rcases h6 with ⟨rfl, y⟩ | ⟨rfl, y, z⟩ | ⟨rfl, y, z, z2⟩ | ⟨rfl, y, z, z2⟩ | ⟨rfl, y, z, z2, z3⟩ | ⟨rfl, y⟩
        · simp (disch := omega) only [↓K_top, ↓G_top, ↓P_top, ↓K_trs, ↓G_trs, ↓al_8 _, ↓al_9 _, ↓oC_of (c_103 _ _ _), ↓if_b2i, ↓oC_of (c_104 _ _ _), ↓oC_of (c_185 _), ↓oK_some, ↓oC_some, ↓if_pos, ↓if_neg, rd_wr_eq, rd_wr_ne, rd_wr_ix, w32_id]
        · simp (disch := omega) only [↓K_top, ↓G_top, ↓P_top, ↓K_trs, ↓G_trs, ↓al_8 _, ↓al_9 _, ↓oC_of (c_103 _ _ _), ↓if_b2i, ↓oC_of (c_104 _ _ _), ↓oC_of (c_185 _), ↓oK_some, ↓oC_some, ↓if_pos, ↓if_neg, rd_wr_eq, rd_wr_ne, rd_wr_ix, w32_id]
        · simp (disch := omega) only [↓K_top, ↓G_top, ↓P_top, ↓K_trs, ↓G_trs, ↓al_8 _, ↓al_9 _, ↓oC_of (c_103 _ _ _), ↓if_b2i, ↓oC_of (c_104 _ _ _), ↓oC_of (c_105 _ _ _ _ _ _), ↓oC_of (c_185 _), ↓oK_some, ↓oC_some, ↓if_pos, ↓if_neg, rd_wr_eq, rd_wr_ne, rd_wr_ix, w32_id]
        · have q := r4 y
          have q6 : MI X (d + 1) 106 [.inr (.inr 2), .inl f, .inl p, .inl n] S0 (ov g) = some (0, S0, ov g) := by
            rw [e_106]
            simp (disch := omega) only [↓K_trs, ↓G_trs, ↓al_8 _, ↓as_8, ↓al_9 _, ↓as_9, ↓al_rows, ↓al_row, ↓as_row]
            by_cases w : rd g 9 f < p
            · rw [if_pos w]
            · rw [if_neg w, w32_id (by omega) (by omega), if_pos (by omega)]
          simp (disch := omega) only [↓K_top, ↓G_top, ↓P_top, ↓K_trs, ↓G_trs, ↓al_8 _, ↓al_9 _, ↓oC_of (c_103 _ _ _), ↓if_b2i, ↓oC_of (c_104 _ _ _), ↓oC_of (c_105 _ _ _ _ _ _), ↓oC_of q6, ↓oC_of (c_185 _), ↓oK_some, ↓oC_some, ↓if_pos, ↓if_neg, rd_wr_eq, rd_wr_ne, rd_wr_ix, w32_id]
        · have q := r4 y
          have q' := s4 (by omega)
          have q6 : MI X (d + 1) 106 [.inr (.inr 2), .inl f, .inl p, .inl n] S0 (ov g) = some (1, S0, ov g) := by
            rw [e_106]
            simp (disch := omega) only [↓K_trs, ↓G_trs, ↓al_8 _, ↓as_8, ↓al_9 _, ↓as_9, ↓al_rows, ↓al_row, ↓as_row]
            rw [if_neg (by omega), w32_id (by omega) (by omega), if_neg (by omega)]
          have q7 : MI X (d + 1) 106 [.inr (.inr 2), .inl t, .inl a, .inl n] S0 (ov g) = some (0, S0, ov g) := by
            rw [e_106]
            simp (disch := omega) only [↓K_trs, ↓G_trs, ↓al_8 _, ↓as_8, ↓al_9 _, ↓as_9, ↓al_rows, ↓al_row, ↓as_row]
            by_cases w : rd g 9 t < a
            · rw [if_pos w]
            · rw [if_neg w, w32_id (by omega) (by omega), if_pos (by omega)]
          simp (disch := omega) only [↓K_top, ↓G_top, ↓P_top, ↓K_trs, ↓G_trs, ↓al_8 _, ↓al_9 _, ↓oC_of (c_103 _ _ _), ↓if_b2i, ↓oC_of (c_104 _ _ _), ↓oC_of (c_105 _ _ _ _ _ _), ↓oC_of q6, ↓oC_of q7, ↓oC_of (c_185 _), ↓oK_some, ↓oC_some, ↓if_pos, ↓if_neg, rd_wr_eq, rd_wr_ne, rd_wr_ix, w32_id]
        · exact absurd rfl hW
    · rw [e_211]
      rcases hx with ⟨rfl, h⟩ | ⟨rfl, h⟩ | ⟨rfl, h, h2⟩ | ⟨rfl, h, h2⟩ | ⟨rfl, h, h2, h3⟩ | ⟨rfl, h, h2, h3, h4⟩ | ⟨rfl, h, h2, h3, h4, h5⟩ | ⟨h, h2, h3, h4, h5, h6⟩
      · simp (disch := omega) only [↓K_mod, ↓oC_of (m_205 _ _ _), ↓if_b2i, ↓oC_of (m_is0 _), ↓oC_of m_is1, ↓oK_some, ↓oC_some, ↓if_pos, ↓if_neg, rd_wr_eq, rd_wr_ne, rd_wr_ix, w32_id]
      · simp (disch := omega) only [↓K_mod, ↓oC_of (m_205 _ _ _), ↓if_b2i, ↓oC_of (m_is0 _), ↓oC_of m_is1, ↓oK_some, ↓oC_some, ↓if_pos, ↓if_neg, rd_wr_eq, rd_wr_ne, rd_wr_ix, w32_id]
      · simp (disch := omega) only [↓K_mod, ↓oC_of (m_205 _ _ _), ↓if_b2i, ↓oC_of (m_is0 _), ↓oC_of m_is1, ↓oK_some, ↓oC_some, ↓if_pos, ↓if_neg, rd_wr_eq, rd_wr_ne, rd_wr_ix, w32_id]
      · simp (disch := omega) only [↓K_mod, ↓oC_of (m_205 _ _ _), ↓if_b2i, ↓oC_of (m_is0 _), ↓oC_of m_is1, ↓oK_some, ↓oC_some, ↓if_pos, ↓if_neg, rd_wr_eq, rd_wr_ne, rd_wr_ix, w32_id]
      · simp (disch := omega) only [↓K_mod, ↓oC_of (m_205 _ _ _), ↓if_b2i, ↓oC_of (m_is0 _), ↓oC_of m_is1, ↓oK_some, ↓oC_some, ↓if_pos, ↓if_neg, rd_wr_eq, rd_wr_ne, rd_wr_ix, w32_id]
      · simp (disch := omega) only [↓K_mod, ↓oC_of (m_205 _ _ _), ↓if_b2i, ↓oC_of (m_is0 _), ↓oC_of m_is1, ↓oK_some, ↓oC_some, ↓if_pos, ↓if_neg, rd_wr_eq, rd_wr_ne, rd_wr_ix, w32_id]
      · simp (disch := omega) only [↓K_mod, ↓oC_of (m_205 _ _ _), ↓if_b2i, ↓oC_of (m_is0 _), ↓oC_of m_is1, ↓oK_some, ↓oC_some, ↓if_pos, ↓if_neg, rd_wr_eq, rd_wr_ne, rd_wr_ix, w32_id]
      · obtain ⟨r1, r2, r3, r4⟩ := r f h.1 h.2
        obtain ⟨s1, s2, s3, s4⟩ := r t h2.1 h2.2
        have x1 := x8 147 f (by omega) (by omega)
        have x2 := x8 147 t (by omega) (by omega)
        have x3 := x8 146 f (by omega) (by omega)
        have x4 := x8 146 t (by omega) (by omega)
        rcases h6 with ⟨rfl, y⟩ | ⟨rfl, y, z⟩ | ⟨rfl, y, z, z2⟩ | ⟨rfl, y, z, z2⟩ | ⟨rfl, y, z, z2, z3⟩ | ⟨rfl, y⟩
        · have q := r3 y
          simp (disch := omega) only [↓K_mod, ↓G_mod, ↓al_147 _, ↓oC_of (m_205 _ _ _), ↓if_b2i, x1, ↓oC_of (m_is0 _), ↓oC_of m_is1, ↓oK_some, ↓oC_some, ↓if_pos, ↓if_neg, rd_wr_eq, rd_wr_ne, rd_wr_ix, w32_id]
        · have q := r4 y
          have q' := s3 z
          simp (disch := omega) only [↓K_mod, ↓G_mod, ↓al_147 _, ↓oC_of (m_205 _ _ _), ↓if_b2i, x1, x2, ↓oC_of (m_is0 _), ↓oC_of m_is1, ↓oK_some, ↓oC_some, ↓if_pos, ↓if_neg, rd_wr_eq, rd_wr_ne, rd_wr_ix, w32_id]
        · have q := r4 y
          have q' := s4 z
          simp (disch := omega) only [↓K_mod, ↓G_mod, ↓al_147 _, ↓al_146 _, ↓oC_of (m_205 _ _ _), ↓if_b2i, x1, x2, x3, x4, ↓oC_of (m_is0 _), ↓oC_of m_is1, ↓oK_some, ↓oC_some, ↓if_pos, ↓if_neg, rd_wr_eq, rd_wr_ne, rd_wr_ix, w32_id]
        · have q := r4 y
          have q' := s4 (by omega)
          simp (disch := omega) only [↓K_mod, ↓G_mod, ↓al_147 _, ↓al_146 _, ↓oC_of (m_205 _ _ _), ↓if_b2i, x1, x2, x3, x4, ↓oC_of (m_is0 _), ↓oC_of m_is1, ↓oK_some, ↓oC_some, ↓if_pos, ↓if_neg, rd_wr_eq, rd_wr_ne, rd_wr_ix, w32_id]
        · have q := r4 y
          have q' := s4 (by omega)
          simp (disch := omega) only [↓K_mod, ↓G_mod, ↓al_147 _, ↓al_146 _, ↓oC_of (m_205 _ _ _), ↓if_b2i, x1, x2, x3, x4, ↓oC_of (m_is0 _), ↓oC_of m_is1, ↓oK_some, ↓oC_some, ↓if_pos, ↓if_neg, rd_wr_eq, rd_wr_ne, rd_wr_ix, w32_id]
        · exact absurd rfl hW
  subst hW
  have ok : (0 ≤ f ∧ f < 4) ∧ (0 ≤ t ∧ t < 4) ∧ 0 ≤ p ∧ 0 ≤ a ∧ 0 ≤ n ∧ rd g 8 f ≠ -1 ∧ rd g 8 f = rd g 8 t ∧ n ≤ rd g 9 f - p ∧ n ≤ rd g 9 t - a := by omega
  obtain ⟨⟨f0, f4⟩, ⟨t0, t4⟩, p0, a0, n0, y1, y2, y3, y4⟩ := ok
  obtain ⟨r1, r2, r3, r4⟩ := r f f0 f4
  obtain ⟨s1, s2, s3, s4⟩ := r t t0 t4
  obtain ⟨d1, d2, d3, d4, d5⟩ := r4 y1
  obtain ⟨b1, b2, b3, b4, b5⟩ := s4 (by omega)
  have hA : MI X (d + 2) 134 [.inr (.inr 1), .inl f, .inl p, .inl t, .inl a, .inl n] S0 (ov g) = some (1, S0, ov (wr (cp g (4 + t) (4 + f) p a n) 1 15 0)) := by
    rw [e_134]
    have q6 : MI X (d + 1) 106 [.inr (.inr 2), .inl f, .inl p, .inl n] S0 (ov g) = some (1, S0, ov g) := by
      rw [e_106]
      simp (disch := omega) only [↓K_trs, ↓G_trs, ↓al_8 _, ↓as_8, ↓al_9 _, ↓as_9, ↓al_rows, ↓al_row, ↓as_row]
      rw [if_neg (by omega), w32_id (by omega) (by omega), if_neg (by omega)]
    have q7 : MI X (d + 1) 106 [.inr (.inr 2), .inl t, .inl a, .inl n] S0 (ov g) = some (1, S0, ov g) := by
      rw [e_106]
      simp (disch := omega) only [↓K_trs, ↓G_trs, ↓al_8 _, ↓as_8, ↓al_9 _, ↓as_9, ↓al_rows, ↓al_row, ↓as_row]
      rw [if_neg (by omega), w32_id (by omega) (by omega), if_neg (by omega)]
    have q8 : MI X (d + 1) 111 [.inr (.inr 2), .inl f, .inl p, .inl t, .inl a, .inl n] S0 (ov g) = some (0, S0, ov (cp g (4 + t) (4 + f) p a n)) := by
      rw [e_111]
      simp (disch := omega) only [↓K_trs, ↓G_trs, ↓al_8 _, ↓as_8, ↓al_9 _, ↓as_9, ↓al_rows, ↓al_row, ↓as_row, ↓acp_row X]
    simp (disch := omega) only [↓K_top, ↓G_top, ↓P_top, ↓K_trs, ↓G_trs, ↓al_8 _, ↓al_9 _, ↓oC_of (c_103 _ _ _), ↓if_b2i, ↓oC_of (c_104 _ _ _), ↓oC_of (c_105 _ _ _ _ _ _), ↓oC_of q6, ↓oC_of q7, ↓oC_of q8, ↓oC_of c_184, ↓oK_some, ↓oC_some, ↓if_pos, ↓if_neg, rd_wr_eq, rd_wr_ne, rd_wr_ix, w32_id]
  refine Ok_eq hA ?_
  generalize hg1 : wr (cp g (4 + t) (4 + f) p a n) 1 15 0 = g1
  have g15 : rd g1 1 15 = 0 := by subst hg1; exact rd_wr_eq _ _ _ _
  have gr : ∀ i, 0 ≤ i → rd g1 (4 + t) i = if a ≤ i ∧ i < a + n then rd g (4 + f) (p + (i - a)) else rd g (4 + t) i := fun i i0 => by
    subst hg1
    rw [rd_wr_ne _ _ _ _ (by omega) (by omega) (by omega), rd_cp _ (by omega) (by omega) p0 a0 n0 i0]
    by_cases z : a ≤ i ∧ i < a + n
    · rw [if_pos z, if_pos ⟨rfl, z⟩]
    · rw [if_neg z, if_neg (fun y => z y.2)]
  have go : ∀ c i, 0 ≤ c → 0 ≤ i → c ≠ 4 + t → (c ≠ 1 ∨ i ≠ 15) → rd g1 c i = rd g c i := fun c i x y z w => by
    subst hg1
    have e1 : rd (wr (cp g (4 + t) (4 + f) p a n) 1 15 0) c i = rd (cp g (4 + t) (4 + f) p a n) c i := by
      by_cases u : c = 1
      · subst u; exact rd_wr_ix _ _ (by omega) y (by omega)
      · exact rd_wr_ne _ _ _ _ (by omega) x u
    rw [e1]
    exact rd_cp_ne _ (by omega) x z
  have hM : Ok (fun v g' => v = 1 ∧ rd g' 143 2 = 0 ∧ (∀ j, 0 ≤ j → j < n → rd g' 148 (60 * t + a + j) = rd g1 148 (60 * f + p + j)) ∧ (∀ c j, 0 ≤ c → 0 ≤ j → (c ≠ 143 ∨ j ≠ 2) → (c ≠ 148 ∨ j < 60 * t + a ∨ 60 * t + a + n ≤ j) → rd g' c j = rd g1 c j)) (MI X (d + 2) 211 [.inr (.inr 143), .inl f, .inl p, .inl t, .inl a, .inl n] S0 (ov g1)) := by
    rw [e_211]
    have x1 := go 147 f (by omega) (by omega) (by omega) (by omega)
    have x2 := go 147 t (by omega) (by omega) (by omega) (by omega)
    have x3 := go 146 f (by omega) (by omega) (by omega) (by omega)
    have x4 := go 146 t (by omega) (by omega) (by omega) (by omega)
    simp (disch := omega) only [↓K_mod, ↓G_mod, ↓al_147 _, ↓al_146 _, ↓oC_of (m_205 _ _ _), ↓if_b2i, x1, x2, x3, x4, ↓oK_some, ↓oC_some, ↓if_pos, ↓if_neg, rd_wr_eq, rd_wr_ne, rd_wr_ix, w32_id]
    refine Ok_mono (m_211_l f p t a n f0 f4 t0 t4 p0 a0 (by omega) (by omega) n.toNat 0 g1 (by omega) (by omega)) ?_
    rintro v g' ⟨q0, q3, q1, q2⟩
    refine ⟨q0, q3, fun j x y => ?_, q2⟩
    rw [q1 j x y, if_pos (by omega)]
  refine Ok_mono hM ?_
  rintro w g2 ⟨rfl, c0, c1, c2⟩
  refine ⟨rfl, ?_, fun u u0 u4 => ?_, fun c i x y z w k l => ?_⟩
  · rw [c2 _ _ (by omega) (by omega) (by omega) (by omega), g15, c0]
  · have e : ∀ c i, 0 ≤ i → c = 8 ∨ c = 9 ∨ c = 146 ∨ c = 147 → rd g2 c i = rd g c i := fun c i i0 hc => by
      rw [c2 _ _ (by omega) i0 (by omega) (by omega), go _ _ (by omega) i0 (by omega) (by omega)]
    obtain ⟨h1, h2, h3, h4⟩ := r u u0 u4
    rw [e 8 u u0 (by omega), e 9 u u0 (by omega), e 146 u u0 (by omega), e 147 u u0 (by omega)]
    refine ⟨h1, h2, h3, fun z => ?_⟩
    obtain ⟨k1, k2, k3, k4, k5⟩ := h4 z
    refine ⟨k1, k2, k3, k4, fun i i0 i1 => ?_⟩
    rw [c2 (4 + u) i (by omega) i0 (by omega) (by omega)]
    by_cases ut : u = t
    · subst ut
      rw [gr i i0]
      by_cases z : a ≤ i ∧ i < a + n
      · have q := c1 (i - a) (by omega) (by omega)
        rw [show 60 * u + a + (i - a) = 60 * u + i by omega, go 148 _ (by omega) (by omega) (by omega) (by omega)] at q
        rw [if_pos z, q, d5 (p + (i - a)) (by omega) (by omega)]
        congr 1
        omega
      · rw [if_neg z, c2 148 _ (by omega) (by omega) (by omega) (by omega), go 148 _ (by omega) (by omega) (by omega) (by omega)]
        exact k5 i i0 i1
    · rw [go (4 + u) i (by omega) i0 (by omega) (by omega), c2 148 _ (by omega) (by omega) (by omega) (by omega), go 148 _ (by omega) (by omega) (by omega) (by omega)]
      exact k5 i i0 i1
  · rw [c2 c i x y l (by omega)]
    exact go c i x y (by omega) w
end
