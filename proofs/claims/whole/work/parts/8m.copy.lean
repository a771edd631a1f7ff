/-! copyLife of both -/
section
variable {X : Xs} {d : Nat} {g : Mem} {s : Int → Int} {N : Int}
theorem c_106_0 (t n : Int) (t0 : 0 ≤ t) (t4 : t < 4) (z0 : 0 ≤ rd g 9 t) (z6 : rd g 9 t ≤ 60) : MI X d 106 [.inr (.inr 2), .inl t, .inl 0, .inl n] S0 (ov g) = some (b2i (n ≤ rd g 9 t), S0, ov g) := by
  rw [e_106]
  simp (disch := omega) only [↓K_trs, ↓G_trs, ↓al_8 _, ↓as_8, ↓al_9 _, ↓as_9, ↓al_rows, ↓al_row, ↓as_row, ↓oK_some, ↓oC_some, ↓if_pos, ↓if_neg, rd_wr_eq, rd_wr_ne, rd_wr_ix, w32_id, Int.sub_zero]
  unfold b2i
  by_cases h : rd g 9 t < n
  · rw [if_pos h, if_neg (by omega)]
  · rw [if_neg h, if_pos (by omega)]
theorem c_175_l (hi : Iv N s) (t : Int) (t0 : 0 ≤ t) (t4 : t < 4) : ∀ (k : Nat) (i : Int) (g : Mem), RD g 19 s → i + k = s 1 → 0 ≤ i → Ok (fun v g' => v = s 1 ∧ rd g' 1 15 = 0 ∧ (∀ j, i ≤ j → j < s 1 → rd g' (4 + t) j = cuF (rd g 8 t) (mn s j 1)) ∧ (∀ c j, 0 ≤ c → 0 ≤ j → (c ≠ 1 ∨ j ≠ 15) → (c ≠ 4 + t ∨ j < i ∨ s 1 ≤ j) → rd g' c j = rd g c j)) (EI X (d + 2) 175 61 [some (.inr (.inr 1)), some (.inl t), some (.inl i)] [] S0 (ov g)) := by
  have hb := isD19
  have i2 := hi.2.2.1
  have i3 := hi.2.2.2.1
  intro k
  induction k with
  | zero =>
    intro i g r hk i0
    have r1 := r.2.1
    rw [e_175_61]
    simp (disch := omega) only [↓K_top, ↓G_top, ↓P_top, ↓G_daw hb, r1, ↓oK_some, ↓oC_some, ↓if_pos, ↓if_neg, rd_wr_eq, rd_wr_ne, rd_wr_ix, w32_id, ↓oC_of (c_181 _)]
    refine Ok_some ⟨rfl, rd_wr_eq _ _ _ _, fun j a b => by omega, fun c j a b e f => ?_⟩
    by_cases z : c = 1
    · subst z; exact rd_wr_ix _ _ (by omega) b (by omega)
    · exact rd_wr_ne _ _ _ _ (by omega) a z
  | succ k ih =>
    intro i g r hk i0
    have r1 := r.2.1
    have rl : rd g 26 i = mn s i 1 := (r.2.2.2.2.1 i i0 (by omega)).2.1
    rw [e_175_61]
    have q9 : MI X (d + 1) 109 [.inr (.inr 2), .inl t, .inl i, .inr (.inl (mn s i 1))] S0 (ov g) = some (0, S0, ov (wr g (4 + t) i (cuF (rd g 8 t) (mn s i 1)))) := by
      rw [e_109]
      simp (disch := omega) only [↓K_trs, ↓G_trs, ↓al_8 _, ↓as_8, ↓al_9 _, ↓as_9, ↓al_rows, ↓al_row, ↓as_row, ↓oC_of (c_112 _ _ _ _)]
    simp (disch := omega) only [↓K_top, ↓G_top, ↓P_top, ↓K_trs, ↓G_daw hb, ↓al_D7 _ hb, Int.reduceAdd, r1, rl, ↓oK_some, ↓oC_some, ↓if_pos, ↓if_neg, rd_wr_eq, rd_wr_ne, rd_wr_ix, w32_id, ↓oC_of q9]
    have r' : RD (wr g (4 + t) i (cuF (rd g 8 t) (mn s i 1))) 19 s := RD_fr r (fun c j x y => rd_wr_ne _ _ _ _ (by omega) (by omega) (by omega))
    refine Ok_mono (ih (i + 1) _ r' (by omega) (by omega)) ?_
    rintro v g' ⟨q0, q1, q2, q3⟩
    have e8 : rd (wr g (4 + t) i (cuF (rd g 8 t) (mn s i 1))) 8 t = rd g 8 t := rd_wr_ne _ _ _ _ (by omega) (by omega) (by omega)
    rw [e8] at q2
    refine ⟨q0, q1, fun j a b => ?_, fun c j a b e f => ?_⟩
    · by_cases z : j = i
      · subst z
        rw [q3 _ _ (by omega) (by omega) (by omega) (by omega), rd_wr_eq]
      · exact q2 j (by omega) b
    · rw [q3 c j a b e (by omega)]
      by_cases z : c = 4 + t
      · subst z; exact rd_wr_ix _ _ i0 b (by omega)
      · exact rd_wr_ne _ _ _ _ (by omega) a z
theorem m_325_l (hi : Iv N s) (t : Int) (t0 : 0 ≤ t) (t4 : t < 4) : ∀ (k : Nat) (i : Int) (g : Mem), RM g s → i + k = s 1 → 0 ≤ i → Ok (fun v g' => v = s 1 ∧ rd g' 143 2 = 0 ∧ (∀ j, i ≤ j → j < s 1 → rd g' 148 (60 * t + j) = cuF (rd g 146 t) (mn s j 1)) ∧ (∀ c j, 0 ≤ c → 0 ≤ j → (c ≠ 143 ∨ j ≠ 2) → (c ≠ 148 ∨ j < 60 * t + i ∨ 60 * t + s 1 ≤ j) → rd g' c j = rd g c j)) (EI X (d + 2) 325 52 [some (.inr (.inr 143)), some (.inl t), some (.inl i)] [] S0 (ov g)) := by
  have i2 := hi.2.2.1
  have i3 := hi.2.2.2.1
  intro k
  induction k with
  | zero =>
    intro i g r hk i0
    have r1 : rd g 144 1 = s 1 := r 1 (by omega) (by omega)
    rw [e_325_52]
    simp (disch := omega) only [↓K_mod, ↓G_mod, ↓al_144 _, r1, ↓oK_some, ↓oC_some, ↓if_pos, ↓if_neg, rd_wr_eq, rd_wr_ne, rd_wr_ix, w32_id, ↓oC_of (m_202 _)]
    refine Ok_some ⟨rfl, rd_wr_eq _ _ _ _, fun j a b => by omega, fun c j a b e f => ?_⟩
    by_cases z : c = 143
    · subst z; exact rd_wr_ix _ _ (by omega) b (by omega)
    · exact rd_wr_ne _ _ _ _ (by omega) a z
  | succ k ih =>
    intro i g r hk i0
    have r1 : rd g 144 1 = s 1 := r 1 (by omega) (by omega)
    rw [e_325_52]
    simp (disch := omega) only [↓K_mod, ↓G_mod, ↓al_144 _, r1, ↓oK_some, ↓oC_some, ↓if_pos, ↓if_neg, rd_wr_eq, rd_wr_ne, rd_wr_ix, w32_id, ↓oC_of (m_252 r _ _ _ _ _ _), ↓al_146 _, ↓oC_of (m_206 _ _ _ _), ↓as_148]
    have r' : RM (wr g 148 (60 * t + i) (cuF (rd g 146 t) (mn s i 1))) s := RM_wo r _ _ (by omega) (by omega)
    refine Ok_mono (ih (i + 1) _ r' (by omega) (by omega)) ?_
    rintro v g' ⟨q0, q1, q2, q3⟩
    have e8 : rd (wr g 148 (60 * t + i) (cuF (rd g 146 t) (mn s i 1))) 146 t = rd g 146 t := rd_wr_ne _ _ _ _ (by omega) (by omega) (by omega)
    rw [e8] at q2
    refine ⟨q0, q1, fun j a b => ?_, fun c j a b e f => ?_⟩
    · by_cases z : j = i
      · subst z
        rw [q3 _ _ (by omega) (by omega) (by omega) (by omega), rd_wr_eq]
      · exact q2 j (by omega) b
    · rw [q3 c j a b e (by omega)]
      by_cases z : c = 148
      · subst z; exact rd_wr_ix _ _ (by omega) b (by omega)
      · exact rd_wr_ne _ _ _ _ (by omega) a z
/-- a TRAY that must hold n numbers: its STATUS -/
def trN (g : Mem) (t n : Int) : Int := if ¬ (0 ≤ t ∧ t < 4) then 1 else if rd g 8 t = -1 then 2 else if rd g 9 t < n then 3 else 0
theorem trN_c {g : Mem} {t n w : Int} (h : trN g t n = w) : (w = 1 ∧ t < 0) ∨ (w = 1 ∧ 4 ≤ t) ∨ (w = 2 ∧ (0 ≤ t ∧ t < 4) ∧ rd g 8 t = -1) ∨ (w = 3 ∧ (0 ≤ t ∧ t < 4) ∧ rd g 8 t ≠ -1 ∧ rd g 9 t < n) ∨ (w = 0 ∧ (0 ≤ t ∧ t < 4) ∧ rd g 8 t ≠ -1 ∧ n ≤ rd g 9 t) := by
  unfold trN at h
  split at h
  · subst h; omega
  · split at h
    · subst h; omega
    · split at h
      · subst h; omega
      · subst h; omega
theorem p_copy (r : TR g) (rr : RD g 19 s) (rm : RM g s) (hi : Iv N s) (t : Int) : Pr (fun g' => TR g' ∧ FT g g') (MI X (d + 2) 175 [.inr (.inr 1), .inl t] S0 (ov g)) (fun g1 => MI X (d + 2) 325 [.inr (.inr 143), .inl t] S0 (ov g1)) := by
  have hb := isD19
  have i2 := hi.2.2.1
  have i3 := hi.2.2.2.1
  have r1 := rr.2.1
  have hx := trN_c (g := g) (t := t) (n := s 1) rfl
  generalize trN g t (s 1) = W at hx
  by_cases hW : W = 0
  case neg =>
    have x8 : ∀ c i, c ≠ 1 → 0 ≤ c → rd (wr g 1 15 W) c i = rd g c i := fun c i h0 h => rd_wr_ne _ _ _ _ (by omega) h h0
    refine Pr_eq (v := -1) (g1 := wr g 1 15 W) (g2 := wr (wr g 1 15 W) 143 2 W) ?_ ?_ (st2_eq g W) ⟨st2_tr r _ _, st2_ft _ _ _⟩
    · rw [e_175]
      rcases hx with ⟨rfl, h⟩ | ⟨rfl, h⟩ | ⟨rfl, h, h2⟩ | ⟨rfl, h, h2, h3⟩ | ⟨rfl, h, h2, h3⟩
      · simp (disch := omega) only [↓K_top, ↓G_top, ↓P_top, ↓K_trs, ↓oC_of (c_103 _ _ _), ↓if_b2i, ↓oC_of (c_183 _), ↓oK_some, ↓oC_some, ↓if_pos, ↓if_neg, rd_wr_eq, rd_wr_ne, rd_wr_ix, w32_id]
      · simp (disch := omega) only [↓K_top, ↓G_top, ↓P_top, ↓K_trs, ↓oC_of (c_103 _ _ _), ↓if_b2i, ↓oC_of (c_183 _), ↓oK_some, ↓oC_some, ↓if_pos, ↓if_neg, rd_wr_eq, rd_wr_ne, rd_wr_ix, w32_id]
      · simp (disch := omega) only [↓K_top, ↓G_top, ↓P_top, ↓K_trs, ↓G_trs, ↓al_8 _, ↓oC_of (c_103 _ _ _), ↓if_b2i, ↓oC_of (c_104 _ _ _), ↓if_b2i, ↓oC_of (c_183 _), ↓oK_some, ↓oC_some, ↓if_pos, ↓if_neg, rd_wr_eq, rd_wr_ne, rd_wr_ix, w32_id]
      · have q := (r t h.1 h.2).2.2.2 h2
        have q6 := c_106_0 (X := X) (d := d + 1) t (s 1) h.1 h.2 q.2.2.1 q.2.2.2.1
        rw [show b2i (s 1 ≤ rd g 9 t) = 0 from if_neg (by omega)] at q6
        simp (disch := omega) only [↓K_top, ↓G_top, ↓P_top, ↓K_trs, ↓G_trs, ↓al_8 _, ↓G_daw hb, r1, ↓oC_of (c_103 _ _ _), ↓if_b2i, ↓oC_of (c_104 _ _ _), ↓if_b2i, ↓oC_of q6, ↓oC_of (c_183 _), ↓oK_some, ↓oC_some, ↓if_pos, ↓if_neg, rd_wr_eq, rd_wr_ne, rd_wr_ix, w32_id]
      · exact absurd rfl hW
    · have y1 : rd (wr g 1 15 W) 144 1 = s 1 := by rw [x8 144 1 (by omega) (by omega)]; exact rm 1 (by omega) (by omega)
      rw [e_325]
      rcases hx with ⟨rfl, h⟩ | ⟨rfl, h⟩ | ⟨rfl, h, h2⟩ | ⟨rfl, h, h2, h3⟩ | ⟨rfl, h, h2, h3⟩
      · simp (disch := omega) only [↓K_mod, ↓oC_of (m_205 _ _ _), ↓if_b2i, ↓oC_of (m_201 _), ↓oK_some, ↓oC_some, ↓if_pos, ↓if_neg, rd_wr_eq, rd_wr_ne, rd_wr_ix, w32_id]
      · simp (disch := omega) only [↓K_mod, ↓oC_of (m_205 _ _ _), ↓if_b2i, ↓oC_of (m_201 _), ↓oK_some, ↓oC_some, ↓if_pos, ↓if_neg, rd_wr_eq, rd_wr_ne, rd_wr_ix, w32_id]
      · have q := (r t h.1 h.2).2.2.1 h2
        have x1 := x8 147 t (by omega) (by omega)
        simp (disch := omega) only [↓K_mod, ↓G_mod, ↓al_147 _, x1, ↓oC_of (m_205 _ _ _), ↓if_b2i, ↓oC_of (m_201 _), ↓oK_some, ↓oC_some, ↓if_pos, ↓if_neg, rd_wr_eq, rd_wr_ne, rd_wr_ix, w32_id]
      · have q := (r t h.1 h.2).2.2.2 h2
        have x1 := x8 147 t (by omega) (by omega)
        simp (disch := omega) only [↓K_mod, ↓G_mod, ↓al_147 _, ↓al_144 _, x1, y1, ↓oC_of (m_205 _ _ _), ↓if_b2i, ↓oC_of (m_201 _), ↓oK_some, ↓oC_some, ↓if_pos, ↓if_neg, rd_wr_eq, rd_wr_ne, rd_wr_ix, w32_id]
      · exact absurd rfl hW
  subst hW
  have ok : 0 ≤ t ∧ t < 4 ∧ rd g 8 t ≠ -1 ∧ s 1 ≤ rd g 9 t := by omega
  obtain ⟨t0, t4, n1, n2⟩ := ok
  obtain ⟨w1, w2, w3, w4⟩ := r t t0 t4
  obtain ⟨d1, d2, d3, d4, d5⟩ := w4 n1
  have hA : Ok (fun v g' => v = s 1 ∧ rd g' 1 15 = 0 ∧ (∀ j, 0 ≤ j → j < s 1 → rd g' (4 + t) j = cuF (rd g 8 t) (mn s j 1)) ∧ (∀ c j, 0 ≤ c → 0 ≤ j → (c ≠ 1 ∨ j ≠ 15) → (c ≠ 4 + t ∨ j < 0 ∨ s 1 ≤ j) → rd g' c j = rd g c j)) (MI X (d + 2) 175 [.inr (.inr 1), .inl t] S0 (ov g)) := by
    have q6 := c_106_0 (X := X) (d := d + 1) t (s 1) t0 t4 d3 d4
    rw [show b2i (s 1 ≤ rd g 9 t) = 1 from if_pos (by omega)] at q6
    rw [e_175]
    simp (disch := omega) only [↓K_top, ↓G_top, ↓P_top, ↓K_trs, ↓G_trs, ↓al_8 _, ↓G_daw hb, r1, ↓oC_of (c_103 _ _ _), ↓if_b2i, ↓oC_of (c_104 _ _ _), ↓if_b2i, ↓oC_of q6, ↓oK_some, ↓oC_some, ↓if_pos, ↓if_neg, rd_wr_eq, rd_wr_ne, rd_wr_ix, w32_id]
    exact c_175_l hi t t0 t4 (s 1).toNat 0 g rr (by omega) (by omega)
  refine Ok_mono hA ?_
  rintro v g1 ⟨rfl, b0, b1, b2⟩
  have rm1 : RM g1 s := fun i a b => by rw [b2 _ _ (by omega) a (by omega) (by omega)]; exact rm i a b
  have x1 : rd g1 147 t = rd g 9 t := by rw [b2 _ _ (by omega) t0 (by omega) (by omega)]; exact d2
  have x2 : rd g1 146 t = rd g 8 t := by rw [b2 _ _ (by omega) t0 (by omega) (by omega)]; exact d1
  have y1 : rd g1 144 1 = s 1 := rm1 1 (by omega) (by omega)
  have hM : Ok (fun v g' => v = s 1 ∧ rd g' 143 2 = 0 ∧ (∀ j, 0 ≤ j → j < s 1 → rd g' 148 (60 * t + j) = cuF (rd g1 146 t) (mn s j 1)) ∧ (∀ c j, 0 ≤ c → 0 ≤ j → (c ≠ 143 ∨ j ≠ 2) → (c ≠ 148 ∨ j < 60 * t + 0 ∨ 60 * t + s 1 ≤ j) → rd g' c j = rd g1 c j)) (MI X (d + 2) 325 [.inr (.inr 143), .inl t] S0 (ov g1)) := by
    rw [e_325]
    simp (disch := omega) only [↓K_mod, ↓G_mod, ↓al_147 _, ↓al_144 _, x1, y1, ↓oC_of (m_205 _ _ _), ↓if_b2i, ↓oK_some, ↓oC_some, ↓if_pos, ↓if_neg, rd_wr_eq, rd_wr_ne, rd_wr_ix, w32_id]
    exact m_325_l hi t t0 t4 (s 1).toNat 0 g1 rm1 (by omega) (by omega)
  refine Ok_mono hM ?_
  rintro w g2 ⟨rfl, c0, c1, c2⟩
  refine ⟨rfl, ?_, fun u u0 u4 => ?_, fun c i x y z w k l => ?_⟩
  · rw [c2 _ _ (by omega) (by omega) (by omega) (by omega), b0, c0]
  · have e : ∀ c i, 0 ≤ i → c = 8 ∨ c = 9 ∨ c = 146 ∨ c = 147 → rd g2 c i = rd g c i := fun c i i0 hc => by
      rw [c2 _ _ (by omega) i0 (by omega) (by omega), b2 _ _ (by omega) i0 (by omega) (by omega)]
    obtain ⟨h1, h2, h3, h4⟩ := r u u0 u4
    rw [e 8 u u0 (by omega), e 9 u u0 (by omega), e 146 u u0 (by omega), e 147 u u0 (by omega)]
    refine ⟨h1, h2, h3, fun z => ?_⟩
    obtain ⟨k1, k2, k3, k4, k5⟩ := h4 z
    refine ⟨k1, k2, k3, k4, fun i i0 i1 => ?_⟩
    rw [c2 (4 + u) i (by omega) i0 (by omega) (by omega)]
    by_cases ut : u = t ∧ i < s 1
    · obtain ⟨rfl, ui⟩ := ut
      rw [b1 i i0 ui, c1 i i0 ui, x2]
    · rw [b2 (4 + u) i (by omega) i0 (by omega) (by omega), c2 148 _ (by omega) (by omega) (by omega) (by omega), b2 148 _ (by omega) (by omega) (by omega) (by omega)]
      exact k5 i i0 i1
  · rw [c2 c i x y l (by omega)]
    exact b2 c i x y w (by omega)
end
