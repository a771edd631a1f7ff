/-! mark, undo of both -/
section
variable {X : Xs} {d : Nat} {N : Int} {g : Mem}
theorem mk_D {k : Int} (h1 : 1 ≤ k) (h2 : k ≤ 3) : isD (41 + 21 * k) := by
  have hc : k = 1 ∨ k = 2 ∨ k = 3 := by omega
  rcases hc with rfl | rfl | rfl <;> simp [isD]
theorem YR_th {b k : Int} {s : Int → Int} (h : YR g b k s) : (rd g (b + 13) 0 = 0 ∨ rd g (b + 13) 0 = 1) ∧ 0 ≤ rd g (b + 13) 1 ∧ rd g (b + 13) 1 ≤ 30 := by
  obtain ⟨a, h⟩ := h
  rcases h with h | h
  · exact ⟨Or.inl h.1, a.1, a.2⟩
  · exact ⟨Or.inr h.1, a.1, a.2⟩
/-- all but MARKS, the DAWN, TRAYS and the STATUS -/
def Otm (c i : Int) : Prop := (c = 1 ∧ (i = 14 ∨ (16 ≤ i ∧ i ≤ 19))) ∨ c = 10 ∨ c = 15 ∨ c = 141 ∨ (c = 143 ∧ (i = 3 ∨ i = 4 ∨ i = 10 ∨ i = 16 ∨ i = 17 ∨ i = 38)) ∨ c = 149 ∨ c = 162
theorem IV_mk {g' : Mem} (iv : IV N g) (hD : ∃ s, DS N g' 19 0 s) (hT : TR g') (hs : rd g' 1 15 = rd g' 143 2) (hM : MK N g') (f : ∀ c i, 0 ≤ i → Otm c i → rd g' c i = rd g c i) : IV N g' := by
  obtain ⟨-, -, v3, -, v5, v6, v7, v8, v9⟩ := iv
  exact ⟨hD, hT, TP_fr v3 (fun c i a b => f c i a (by unfold Otm; omega)), hs, FA_fr v5 (fun c i b => f c i (by omega) (by unfold Otm; omega)), FR2_fr v6 (fun c i b => f c i (by omega) (by unfold Otm; omega)), hM, LV_fr v8 (fun c i a b => f c i a (by unfold Otm; omega)), RW_fr v9 (fun i a => f 15 i a (by unfold Otm; omega))⟩
theorem p_mark (iv : IV N g) : Pr (IV N) (MI X (d + 40) 179 [.inr (.inr 1)] S0 (ov g)) (fun g1 => MI X (d + 40) 336 [.inr (.inr 143)] S0 (ov g1)) := by
  obtain ⟨s, hs⟩ := iv.1
  obtain ⟨m1, m2, m3, m4⟩ := iv.2.2.2.2.2.2.1
  by_cases h3 : rd g 1 13 < 3
  case neg =>
    refine Pr_ask (q := (-1, 4)) iv (Int.le_refl _) ?_ (fun g1 f => ?_)
    · rw [e_179]
      simp (disch := omega) only [↓G_top, ↓if_neg, ↓K_top]
      exact AnC_no (FC_rf g) 4
    · have e39 : rd g1 143 39 = 3 := by rw [f _ _ (by omega) (by omega) (by unfold ScC; omega) (by omega)]; omega
      rw [e_336]
      simp (disch := omega) only [↓G_mod, e39, ↓if_pos, ↓K_mod]
      exact AnM_no (FN_rf g1) 4
  obtain ⟨t0, t1, t2⟩ := YR_th hs.2.2.2.2
  generalize hm : rd g 1 13 = m at *
  have hb : isD (41 + 21 * (m + 1)) := mk_D (by omega) (by omega)
  have eb : mkB m = 41 + 21 * (m + 1) := by unfold mkB; omega
  have hC : Ok (fun v g1 => v = m + 1 ∧ rd g1 1 15 = 0 ∧ rd g1 1 13 = m + 1 ∧ ∃ gc, TK g 19 gc (41 + 21 * (m + 1)) ∧ FB2 (41 + 21 * (m + 1)) g gc ∧ (∀ c i, 0 ≤ c → 0 ≤ i → (c ≠ 1 ∨ (i ≠ 13 ∧ i ≠ 15)) → rd g1 c i = rd gc c i)) (MI X (d + 40) 179 [.inr (.inr 1)] S0 (ov g)) := by
    rw [e_179]
    simp (disch := omega) only [↓G_top, hm, ↓if_pos, ↓al_marks, eb, ↓K_daw hb]
    refine Ok_bind (c_19 hb isD19 (by omega) t0 t1 t2) ?_
    rintro v gc ⟨p1, p2⟩
    have e13 : rd gc 1 13 = m := by rw [p2 _ _ (by omega) (by omega) (by omega)]; exact hm
    simp (disch := omega) only [↓G_top, ↓P_top, e13, w32_id, rd_wr_eq, ↓K_top, ↓oC_of (c_181 _)]
    refine Ok_some ⟨rfl, rd_wr_eq _ _ _ _, ?_, gc, p1, p2, fun c i x y z => ?_⟩
    · rw [rd_wr_ix _ _ (by omega) (by omega) (by omega), rd_wr_eq]
    · by_cases w : c = 1
      · subst w; rw [rd_wr_ix _ _ (by omega) y (by omega), rd_wr_ix _ _ (by omega) y (by omega)]
      · rw [rd_wr_ne _ _ _ _ (by omega) x w, rd_wr_ne _ _ _ _ (by omega) x w]
  refine Ok_mono hC ?_
  rintro v g1 ⟨rfl, a1, a2, gc, a3, a4, a5⟩
  have k1 : ∀ c i, 0 ≤ c → 0 ≤ i → (c < 41 + 21 * (m + 1) ∨ 41 + 21 * (m + 1) + 20 < c) → (c ≠ 1 ∨ (i ≠ 13 ∧ i ≠ 15)) → rd g1 c i = rd g c i := fun c i x y z w => (a5 c i x y w).trans (a4 c i x y z)
  have e39 : rd g1 143 39 = m := by rw [k1 _ _ (by omega) (by omega) (by omega) (by omega)]; exact m1.symm
  have hMo : Ok (fun w g2 => w = m + 1 ∧ rd g2 143 2 = 0 ∧ rd g2 143 39 = m + 1 ∧ (∀ j, 0 ≤ j → j < 472 → rd g2 144 (472 * (m + 1) + j) = rd g1 144 (472 * 0 + j)) ∧ (∀ j, 0 ≤ j → j < 14 → rd g2 145 (14 * (m + 1) + j) = rd g1 145 (14 * 0 + j)) ∧ (∀ c j, 0 ≤ c → 0 ≤ j → (c ≠ 143 ∨ (j ≠ 2 ∧ j ≠ 39)) → (c ≠ 144 ∨ j < 472 * (m + 1) ∨ 472 * (m + 1) + 472 ≤ j) → (c ≠ 145 ∨ j < 14 * (m + 1) ∨ 14 * (m + 1) + 14 ≤ j) → rd g2 c j = rd g1 c j)) (MI X (d + 40) 336 [.inr (.inr 143)] S0 (ov g1)) := by
    rw [e_336]
    simp (disch := omega) only [↓G_mod, ↓P_mod, e39, ↓if_neg, w32_id, rd_wr_eq, ↓K_mod]
    refine Ok_bind (m_335 0 (m + 1) (by omega) (by omega) (by omega) (by omega) (by omega)) ?_
    rintro v g3 ⟨p1, p2, p3⟩
    have e3 : rd g3 143 39 = m + 1 := by rw [p3 _ _ (by omega) (by omega) (by omega) (by omega), rd_wr_eq]
    simp (disch := omega) only [↓G_mod, e3, ↓K_mod, ↓oC_of (m_202 _)]
    have w39 : ∀ c i, 0 ≤ c → 0 ≤ i → (c ≠ 143 ∨ i ≠ 39) → rd (wr g1 143 39 (m + 1)) c i = rd g1 c i := fun c i x y z => by
      by_cases w : c = 143
      · subst w; exact rd_wr_ix _ _ (by omega) y (by omega)
      · exact rd_wr_ne _ _ _ _ (by omega) x w
    refine Ok_some ⟨rfl, rd_wr_eq _ _ _ _, ?_, fun j x y => ?_, fun j x y => ?_, fun c j x y z w u => ?_⟩
    · rw [rd_wr_ix _ _ (by omega) (by omega) (by omega)]; exact e3
    · rw [rd_wr_ne _ _ _ _ (by omega) (by omega) (by omega), p1 j x y, w39 _ _ (by omega) (by omega) (by omega)]
    · rw [rd_wr_ne _ _ _ _ (by omega) (by omega) (by omega), p2 j x y, w39 _ _ (by omega) (by omega) (by omega)]
    · have e1 : rd (wr g3 143 2 0) c j = rd g3 c j := by
        by_cases h : c = 143
        · subst h; exact rd_wr_ix _ _ (by omega) y (by omega)
        · exact rd_wr_ne _ _ _ _ (by omega) x h
      rw [e1, p3 c j x y w u, w39 _ _ x y (by omega)]
  refine Ok_mono hMo ?_
  rintro w g2 ⟨rfl, b1, b2, b3, b4, b5⟩
  have e : rd g2 1 15 = rd g2 143 2 := by rw [b1, b5 _ _ (by omega) (by omega) (by omega) (by omega) (by omega), a1]
  have k2 : ∀ c i, 0 ≤ c → 0 ≤ i → (c < 41 + 21 * (m + 1) ∨ 41 + 21 * (m + 1) + 20 < c) → (c ≠ 1 ∨ (i ≠ 13 ∧ i ≠ 15)) → (c ≠ 143 ∨ (i ≠ 2 ∧ i ≠ 39)) → (c ≠ 144 ∨ i < 472 * (m + 1) ∨ 472 * (m + 1) + 472 ≤ i) → (c ≠ 145 ∨ i < 14 * (m + 1) ∨ 14 * (m + 1) + 14 ≤ i) → rd g2 c i = rd g c i := fun c i x y z w u r t => (b5 c i x y u r t).trans (k1 c i x y z w)
  refine ⟨rfl, e, IV_mk iv ⟨s, DS_fr hs (fun c i x y z => k2 c i (by omega) z (by omega) (by omega) (by omega) (by omega) (by omega)) (fun i x y => k2 _ _ (by omega) (by omega) (by omega) (by omega) (by omega) (by omega) (by omega)) (fun i x y => k2 _ _ (by omega) (by omega) (by omega) (by omega) (by omega) (by omega) (by omega))⟩ (TR_fr iv.2.1 (fun c i h a => k2 c i (by omega) a (by omega) (by omega) (by omega) (by omega) (by omega))) e ⟨?_, ?_, ?_, fun k x y => ?_⟩ (fun c i x h => k2 c i (by unfold Otm at h; omega) x (by unfold Otm at h; omega) (by unfold Otm at h; omega) (by unfold Otm at h; omega) (by unfold Otm at h; omega) (by unfold Otm at h; omega))⟩
  · rw [b2, b5 _ _ (by omega) (by omega) (by omega) (by omega) (by omega)]; exact a2
  · rw [b5 _ _ (by omega) (by omega) (by omega) (by omega) (by omega), a2]; omega
  · rw [b5 _ _ (by omega) (by omega) (by omega) (by omega) (by omega), a2]; omega
  · rw [b5 _ _ (by omega) (by omega) (by omega) (by omega) (by omega), a2] at y
    by_cases z : k = m + 1
    · subst z
      refine ⟨s, DS_TK hs a3 (fun c i x y z => ?_) (fun i x y => ?_) (fun i x y => ?_)⟩
      · rw [b5 _ _ (by omega) z (by omega) (by omega) (by omega)]
        exact a5 c i (by omega) z (by omega)
      · rw [b3 i x y, k1 _ _ (by omega) (by omega) (by omega) (by omega)]
      · rw [b4 i x y, k1 _ _ (by omega) (by omega) (by omega) (by omega)]
    · obtain ⟨s', hs'⟩ := m4 k x (by omega)
      exact ⟨s', DS_fr hs' (fun c i x y z => k2 c i (by omega) z (by omega) (by omega) (by omega) (by omega) (by omega)) (fun i x y => k2 _ _ (by omega) (by omega) (by omega) (by omega) (by omega) (by omega) (by omega)) (fun i x y => k2 _ _ (by omega) (by omega) (by omega) (by omega) (by omega) (by omega) (by omega))⟩
theorem p_undo (iv : IV N g) : Pr (IV N) (MI X (d + 40) 180 [.inr (.inr 1)] S0 (ov g)) (fun g1 => MI X (d + 40) 337 [.inr (.inr 143)] S0 (ov g1)) := by
  obtain ⟨m1, m2, m3, m4⟩ := iv.2.2.2.2.2.2.1
  by_cases h3 : 0 < rd g 1 13
  case neg =>
    refine Pr_ask (q := (-1, 6)) iv (Int.le_refl _) ?_ (fun g1 f => ?_)
    · rw [e_180]
      simp (disch := omega) only [↓G_top, ↓if_neg, ↓K_top]
      exact AnC_no (FC_rf g) 6
    · have e39 : rd g1 143 39 = 0 := by rw [f _ _ (by omega) (by omega) (by unfold ScC; omega) (by omega)]; omega
      rw [e_337]
      simp (disch := omega) only [↓G_mod, e39, ↓if_pos, ↓K_mod]
      exact AnM_no (FN_rf g1) 6
  generalize hm : rd g 1 13 = m at *
  obtain ⟨s, hs⟩ := m4 m (by omega) (by omega)
  obtain ⟨t0, t1, t2⟩ := YR_th hs.2.2.2.2
  have hb : isD (41 + 21 * m) := mk_D (by omega) (by omega)
  have eb : mkB (m - 1) = 41 + 21 * m := by unfold mkB; omega
  have hC : Ok (fun v g1 => v = m - 1 ∧ rd g1 1 15 = 0 ∧ rd g1 1 13 = m - 1 ∧ ∃ gc, TK g (41 + 21 * m) gc 19 ∧ (∀ c i, 0 ≤ c → 0 ≤ i → (c < 19 ∨ 39 < c) → (c ≠ 1 ∨ i ≠ 13) → rd gc c i = rd g c i) ∧ (∀ c i, 0 ≤ c → 0 ≤ i → (c ≠ 1 ∨ i ≠ 15) → rd g1 c i = rd gc c i)) (MI X (d + 40) 180 [.inr (.inr 1)] S0 (ov g)) := by
    rw [e_180]
    have w13 : ∀ c i, 0 ≤ c → 0 ≤ i → (c ≠ 1 ∨ i ≠ 13) → rd (wr g 1 13 (m - 1)) c i = rd g c i := fun c i x y z => by
      by_cases w : c = 1
      · subst w; exact rd_wr_ix _ _ (by omega) y (by omega)
      · exact rd_wr_ne _ _ _ _ (by omega) x w
    simp (disch := omega) only [↓G_top, ↓P_top, hm, ↓if_pos, w32_id, rd_wr_eq, ↓al_marks, eb, ↓K_daw isD19]
    refine Ok_bind (c_19 (g := wr g 1 13 (m - 1)) isD19 hb (by omega) (by rw [w13 _ _ (by omega) (by omega) (by omega)]; exact t0) (by rw [w13 _ _ (by omega) (by omega) (by omega)]; exact t1) (by rw [w13 _ _ (by omega) (by omega) (by omega)]; exact t2)) ?_
    rintro v gc ⟨p1, p2⟩
    have e13 : rd gc 1 13 = m - 1 := by rw [p2 _ _ (by omega) (by omega) (by omega), rd_wr_eq]
    simp (disch := omega) only [↓G_top, e13, ↓K_top, ↓oC_of (c_181 _)]
    refine Ok_some ⟨rfl, rd_wr_eq _ _ _ _, ?_, gc, ?_, fun c i x y z w => (p2 c i x y (by omega)).trans (w13 c i x y w), fun c i x y z => ?_⟩
    · rw [rd_wr_ix _ _ (by omega) (by omega) (by omega)]; exact e13
    · obtain ⟨q0, q1, q2, q3, q4⟩ := p1
      simp (disch := omega) only [w13] at q0 q2 q3
      refine ⟨q0, fun k i x y z w => (q1 k i x y z w).trans (w13 _ _ (by omega) z (by omega)), q2, q3, fun k i x y z w => (q4 k i x y z (by rw [w13 _ _ (by omega) (by omega) (by omega)]; exact w)).trans (w13 _ _ (by omega) z (by omega))⟩
    · by_cases w : c = 1
      · subst w; exact rd_wr_ix _ _ (by omega) y (by omega)
      · exact rd_wr_ne _ _ _ _ (by omega) x w
  refine Ok_mono hC ?_
  rintro v g1 ⟨rfl, a1, a2, gc, a3, a4, a5⟩
  have k1 : ∀ c i, 0 ≤ c → 0 ≤ i → (c < 19 ∨ 39 < c) → (c ≠ 1 ∨ (i ≠ 13 ∧ i ≠ 15)) → rd g1 c i = rd g c i := fun c i x y z w => (a5 c i x y (by omega)).trans (a4 c i x y z (by omega))
  have e39 : rd g1 143 39 = m := by rw [k1 _ _ (by omega) (by omega) (by omega) (by omega)]; exact m1.symm
  have hMo : Ok (fun w g2 => w = m - 1 ∧ rd g2 143 2 = 0 ∧ rd g2 143 39 = m - 1 ∧ (∀ j, 0 ≤ j → j < 472 → rd g2 144 (472 * 0 + j) = rd g1 144 (472 * m + j)) ∧ (∀ j, 0 ≤ j → j < 14 → rd g2 145 (14 * 0 + j) = rd g1 145 (14 * m + j)) ∧ (∀ c j, 0 ≤ c → 0 ≤ j → (c ≠ 143 ∨ (j ≠ 2 ∧ j ≠ 39)) → (c ≠ 144 ∨ 472 ≤ j) → (c ≠ 145 ∨ 14 ≤ j) → rd g2 c j = rd g1 c j)) (MI X (d + 40) 337 [.inr (.inr 143)] S0 (ov g1)) := by
    rw [e_337]
    simp (disch := omega) only [↓G_mod, e39, ↓if_neg, ↓K_mod]
    refine Ok_bind (m_335 m 0 (by omega) (by omega) (by omega) (by omega) (by omega)) ?_
    rintro v g3 ⟨p1, p2, p3⟩
    have e3 : rd g3 143 39 = m := by rw [p3 _ _ (by omega) (by omega) (by omega) (by omega)]; exact e39
    simp (disch := omega) only [↓G_mod, ↓P_mod, e3, w32_id, rd_wr_eq, ↓K_mod, ↓oC_of (m_202 _)]
    have w39 : ∀ c i, 0 ≤ c → 0 ≤ i → (c ≠ 143 ∨ (i ≠ 2 ∧ i ≠ 39)) → rd (wr (wr g3 143 39 (m - 1)) 143 2 0) c i = rd g3 c i := fun c i x y z => by
      by_cases w : c = 143
      · subst w; rw [rd_wr_ix _ _ (by omega) y (by omega), rd_wr_ix _ _ (by omega) y (by omega)]
      · rw [rd_wr_ne _ _ _ _ (by omega) x w, rd_wr_ne _ _ _ _ (by omega) x w]
    refine Ok_some ⟨rfl, rd_wr_eq _ _ _ _, ?_, fun j x y => ?_, fun j x y => ?_, fun c j x y z w u => ?_⟩
    · rw [rd_wr_ix _ _ (by omega) (by omega) (by omega), rd_wr_eq]
    · rw [w39 _ _ (by omega) (by omega) (by omega)]; exact p1 j x y
    · rw [w39 _ _ (by omega) (by omega) (by omega)]; exact p2 j x y
    · rw [w39 _ _ x y z]; exact p3 c j x y (by omega) (by omega)
  refine Ok_mono hMo ?_
  rintro w g2 ⟨rfl, b1, b2, b3, b4, b5⟩
  have e : rd g2 1 15 = rd g2 143 2 := by rw [b1, b5 _ _ (by omega) (by omega) (by omega) (by omega) (by omega), a1]
  have k2 : ∀ c i, 0 ≤ c → 0 ≤ i → (c < 19 ∨ 39 < c) → (c ≠ 1 ∨ (i ≠ 13 ∧ i ≠ 15)) → (c ≠ 143 ∨ (i ≠ 2 ∧ i ≠ 39)) → (c ≠ 144 ∨ 472 ≤ i) → (c ≠ 145 ∨ 14 ≤ i) → rd g2 c i = rd g c i := fun c i x y z w u r t => (b5 c i x y u r t).trans (k1 c i x y z w)
  refine ⟨rfl, e, IV_mk iv ⟨s, DS_TK hs a3 (fun c i x y z => ?_) (fun i x y => ?_) (fun i x y => ?_)⟩ (TR_fr iv.2.1 (fun c i h a => k2 c i (by omega) a (by omega) (by omega) (by omega) (by omega) (by omega))) e ⟨?_, ?_, ?_, fun k x y => ?_⟩ (fun c i x h => k2 c i (by unfold Otm at h; omega) x (by unfold Otm at h; omega) (by unfold Otm at h; omega) (by unfold Otm at h; omega) (by unfold Otm at h; omega) (by unfold Otm at h; omega))⟩
  · rw [b5 _ _ (by omega) z (by omega) (by omega) (by omega)]
    exact a5 c i (by omega) z (by omega)
  · rw [b3 i x y, k1 _ _ (by omega) (by omega) (by omega) (by omega)]
  · rw [b4 i x y, k1 _ _ (by omega) (by omega) (by omega) (by omega)]
  · rw [b2, b5 _ _ (by omega) (by omega) (by omega) (by omega) (by omega)]; exact a2
  · rw [b5 _ _ (by omega) (by omega) (by omega) (by omega) (by omega), a2]; omega
  · rw [b5 _ _ (by omega) (by omega) (by omega) (by omega) (by omega), a2]; omega
  · rw [b5 _ _ (by omega) (by omega) (by omega) (by omega) (by omega), a2] at y
    obtain ⟨s', hs'⟩ := m4 k x (by omega)
    exact ⟨s', DS_fr hs' (fun c i x y z => k2 c i (by omega) z (by omega) (by omega) (by omega) (by omega) (by omega)) (fun i x y => k2 _ _ (by omega) (by omega) (by omega) (by omega) (by omega) (by omega) (by omega)) (fun i x y => k2 _ _ (by omega) (by omega) (by omega) (by omega) (by omega) (by omega) (by omega))⟩
end
