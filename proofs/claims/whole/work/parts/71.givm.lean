/-! give, mend, heal, train, rule of the model -/
section
variable {X : Xs} {d : Nat} {g g1 : Mem} {s s' : Int → Int} {N : Int}
theorem MD_yes (r : RM g1 s') (h : FND g g1) : AnMD g (1, 0) s' (oC (MI X d 200 [.inr (.inr 143), .inl 0] S0 (ov g1)) fun r S m => if r = 0 ∨ r = 1 then some (r, S, m) else none) := MD_is (X := X) (d := d) r h 0
theorem MD_deny (r : RM g1 s') (h : FND g g1) {v : Int} (hv : v ≠ 0) : AnMD g (0, v) s' (oC (MI X d 200 [.inr (.inr 143), .inl v] S0 (ov g1)) fun r S m => if r = 0 ∨ r = 1 then some (r, S, m) else none) := by
  have q := MD_is (X := X) (d := d) r h v
  have e : b2i (v = 0) = 0 := if_neg hv
  rw [e] at q
  exact q
theorem FND_wr (g : Mem) {k : Int} (x : Int) (h0 : 0 ≤ k) (h1 : k < 104) : FND g (wr g 144 k x) := FND_FM (FM_wr g x h0 h1)
theorem m_284 (r : RM g s) (hi : Iv N s) (m t : Int) : AnMD g (qGive s m t) (uGive s m t) (MI X (d + 3) 284 [.inr (.inr 143), .inl m, .inl t] S0 (ov g)) := by
  obtain ⟨i0, i1, i2, i3, -⟩ := id hi
  rw [e_284]
  simp only [↓K_mod, ↓oC_of (m_247 r _), ↓oC_of (m_246 r _), ↓if_b2i]
  unfold qGive uGive
  by_cases hm : 0 ≤ m ∧ m < s 1
  case neg =>
    rw [if_neg hm, if_neg (show ¬ giC s m t from fun z => hm z.1), if_neg (fun z => hm z.1.1)]
    exact MD_deny r (FND_rf g) (by omega)
  rw [if_pos hm]
  have k9 : w32 (44 + 10 * m + 3) = 44 + 10 * m + 3 := w32_id (by omega) (by omega)
  by_cases e8 : t = 8
  · have hg : giC s m t := ⟨hm, Or.inl e8⟩
    have x8 : giX t = -1 := if_pos e8
    have d8 : giD s m t = decide (mn s m 3 ≠ -1) := if_pos e8
    have a3 : rd g 144 (44 + 10 * m + 3) = mn s m 3 := r _ (by omega) (by omega)
    rw [if_pos hg, d8, x8]
    simp (disch := omega) only [e8, ↓reduceIte, ↓oC_of (m_232 _ _ _ _ _), k9, ↓K_mod, ↓G_mod, ↓al_144 _, a3]
    by_cases h : mn s m 3 = -1
    · rw [if_pos h, if_neg (show ¬ decide (mn s m 3 ≠ -1) = true by simp [h]), if_neg (fun z => (by simp [h] : ¬ decide (mn s m 3 ≠ -1) = true) z.2)]
      exact MD_deny r (FND_rf g) (by omega)
    · rw [if_neg h, if_pos (show decide (mn s m 3 ≠ -1) = true by simp [h]), if_pos (show giC s m 8 ∧ decide (mn s m 3 ≠ -1) = true from ⟨e8 ▸ hg, by simp [h]⟩)]
      simp (disch := omega) only [↓K_mod, ↓G_mod, ↓P_mod, ↓al_144 _, ↓as_144]
      exact MD_yes (RM_us r _ (by omega)) (FND_wr g _ (by omega) (by omega))
  rw [if_neg e8]
  by_cases h8 : 0 ≤ t ∧ t < s 0
  case neg =>
    rw [if_neg h8, if_neg (show ¬ giC s m t from fun z => z.2.elim e8 h8), if_neg (fun z => z.1.2.elim e8 h8)]
    exact MD_deny r (FND_rf g) (by omega)
  have hg : giC s m t := ⟨hm, Or.inr h8⟩
  have x8 : giX t = t := if_neg e8
  have d8 : giD s m t = decide (hoN s t = -1) := if_neg e8
  rw [if_pos h8, if_pos hg, d8, x8]
  simp (disch := omega) only [↓if_neg e8, ↓oC_of (m_232 _ _ _ _ _), k9, ↓K_mod, ↓oC_of (m_257 r hi _)]
  by_cases h : hoN s t = -1
  · rw [if_pos h, if_pos (show decide (hoN s t = -1) = true by simp [h]), if_pos (show giC s m t ∧ decide (hoN s t = -1) = true from ⟨hg, by simp [h]⟩)]
    simp (disch := omega) only [↓K_mod, ↓G_mod, ↓P_mod, ↓al_144 _, ↓as_144]
    exact MD_yes (RM_us r _ (by omega)) (FND_wr g _ (by omega) (by omega))
  · rw [if_neg h, if_neg (show ¬ decide (hoN s t = -1) = true by simp [h]), if_neg (fun z => (by simp [h] : ¬ decide (hoN s t = -1) = true) z.2)]
    exact MD_deny r (FND_rf g) (by omega)
theorem m_285 (r : RM g s) (hi : Iv N s) (t : Int) : AnMD g (qMend s t) (uMend s t) (MI X (d + 2) 285 [.inr (.inr 143), .inl t] S0 (ov g)) := by
  obtain ⟨i0, i1, i2, i3, -⟩ := id hi
  rw [e_285]
  simp only [↓K_mod, ↓oC_of (m_246 r _), ↓if_b2i]
  unfold qMend uMend
  by_cases ht : 0 ≤ t ∧ t < s 0
  case neg =>
    rw [if_neg ht, if_neg ht, if_neg (fun z => ht z.1)]
    exact MD_no r (FND_rf g) 1
  rw [if_pos ht, if_pos ht, oC_of (m_251 r t 3 ht.1 (by omega) (by omega) (by omega))]
  by_cases h : th s t 3 = 0
  · rw [if_pos h, if_pos h, if_neg (fun z => z.2 h), K_mod]
    exact MD_no r (FND_rf g) 7
  · have hh : (0 ≤ t ∧ t < s 0) ∧ ¬ th s t 3 = 0 := ⟨ht, h⟩
    have k9 : w32 (12 + 4 * t + 3) = 12 + 4 * t + 3 := w32_id (by omega) (by omega)
    rw [if_neg h, if_neg h, if_pos hh]
    simp (disch := omega) only [↓K_mod, ↓G_mod, ↓P_mod, ↓al_144 _, ↓as_144, ↓oC_of (m_231 _ _ _ _ _), k9]
    exact MD_tell (RM_us r _ (by omega)) (FND_wr g _ (by omega) (by omega)) _
theorem m_286 (r : RM g s) (hi : Iv N s) (m x : Int) (h0 : 0 ≤ m) (h1 : m < s 1) (x0 : 1 ≤ x) (x1 : x ≤ 60) : MI X (d + 2) 286 [.inr (.inr 143), .inl m, .inl x] S0 (ov g) = some (b2i (mn s m 1 < mn s m 2), S0, ov (if mn s m 1 < mn s m 2 then wr g 144 (44 + 10 * m + 1) (am_min (mn s m 2) (mn s m 1 + x)) else g)) := by
  obtain ⟨i0, i1, i2, i3, j2, j3, j4, j5, j6, j7, j8, j9, it, im, -⟩ := hi
  have q := im m h0 h1
  have k9 : w32 (44 + 10 * m + 1) = 44 + 10 * m + 1 := w32_id (by omega) (by omega)
  have a1 : rd g 144 (44 + 10 * m + 1) = mn s m 1 := r _ (by omega) (by omega)
  have w9 : w32 (mn s m 1 + x) = mn s m 1 + x := w32_id (by omega) (by omega)
  rw [e_286]
  unfold b2i
  simp (disch := omega) only [↓oC_of (m_232 _ _ _ _ _), ↓K_mod, ↓G_mod, ↓P_mod, ↓al_144 _, ↓as_144, ↓oC_of (m_252 r _ _ _ _ _ _), k9, a1, w9]
  by_cases h : mn s m 1 < mn s m 2
  · rw [if_neg (by omega), if_pos h, if_pos h]
  · rw [if_pos (by omega), if_neg h, if_neg h]
theorem m_287 (r : RM g s) (hi : Iv N s) (m x : Int) : AnMD g (qHeal s m x) (uHeal s m x) (MI X (d + 3) 287 [.inr (.inr 143), .inl m, .inl x] S0 (ov g)) := by
  obtain ⟨i0, i1, i2, i3, -⟩ := id hi
  rw [e_287]
  simp only [↓K_mod, ↓oC_of (m_247 r _), ↓oC_of (m_212 _ _ _ _ _), ↓if_b2i]
  unfold qHeal uHeal
  by_cases hm : 0 ≤ m ∧ m < s 1
  case neg =>
    have n1 : ¬ ((0 ≤ m ∧ m < s 1) ∧ (1 ≤ x ∧ x ≤ 60)) := fun z => hm z.1
    rw [if_neg hm, if_neg n1, if_neg (fun z => n1 z.1)]
    exact MD_no r (FND_rf g) 1
  rw [if_pos hm]
  by_cases h1 : 1 ≤ x ∧ x ≤ 60
  case neg =>
    have n1 : ¬ ((0 ≤ m ∧ m < s 1) ∧ (1 ≤ x ∧ x ≤ 60)) := fun z => h1 z.2
    rw [if_neg h1, if_neg n1, if_neg (fun z => n1 z.1)]
    exact MD_no r (FND_rf g) 1
  have y1 : (0 ≤ m ∧ m < s 1) ∧ (1 ≤ x ∧ x ≤ 60) := ⟨hm, h1⟩
  rw [if_pos h1, if_pos y1]
  have q := m_286 (X := X) (d := d) r hi m x hm.1 hm.2 h1.1 h1.2
  rw [oC_of q, if_b2i]
  by_cases h : mn s m 1 < mn s m 2
  · have y2 : ((0 ≤ m ∧ m < s 1) ∧ (1 ≤ x ∧ x ≤ 60)) ∧ mn s m 1 < mn s m 2 := ⟨y1, h⟩
    have w7 : RM (wr g 144 (44 + 10 * m + 1) (am_min (mn s m 2) (mn s m 1 + x))) (cuS s m x) := RM_us r _ (by omega)
    have e1 : mn (cuS s m x) m 1 = am_min (mn s m 2) (mn s m 1 + x) := us_eq _ _ _
    rw [if_pos h, if_pos h, if_pos y2, if_pos h, K_mod, oC_of (m_252 w7 m 1 (by omega) (by omega) (by omega) (by omega)), e1, K_mod]
    exact MD_tell w7 (FND_wr g _ (by omega) (by omega)) _
  · rw [if_neg h, if_neg h, if_neg (fun z => h z.2), if_neg h, K_mod]
    exact MD_no r (FND_rf g) 7
theorem m_288 (r : RM g s) (hi : Iv N s) (m x : Int) : AnMD g (qTrain s m x) (uTrain s m x) (MI X (d + 2) 288 [.inr (.inr 143), .inl m, .inl x] S0 (ov g)) := by
  obtain ⟨i0, i1, i2, i3, -⟩ := id hi
  rw [e_288]
  simp only [↓K_mod, ↓oC_of (m_247 r _), ↓oC_of (m_212 _ _ _ _ _), ↓if_b2i]
  unfold qTrain uTrain
  by_cases hm : 0 ≤ m ∧ m < s 1
  case neg =>
    have n1 : ¬ ((0 ≤ m ∧ m < s 1) ∧ (0 ≤ x ∧ x ≤ 9)) := fun z => hm z.1
    rw [if_neg hm, if_neg n1, if_neg n1]
    exact MD_deny r (FND_rf g) (by omega)
  rw [if_pos hm]
  by_cases h1 : 0 ≤ x ∧ x ≤ 9
  case neg =>
    have n1 : ¬ ((0 ≤ m ∧ m < s 1) ∧ (0 ≤ x ∧ x ≤ 9)) := fun z => h1 z.2
    rw [if_neg h1, if_neg n1, if_neg n1]
    exact MD_deny r (FND_rf g) (by omega)
  have y1 : (0 ≤ m ∧ m < s 1) ∧ (0 ≤ x ∧ x ≤ 9) := ⟨hm, h1⟩
  rw [if_pos h1, if_pos y1, if_pos y1, Int.add_zero]
  simp (disch := omega) only [↓K_mod, ↓G_mod, ↓P_mod, ↓al_144 _, ↓as_144, ↓oC_of (m_232 _ _ _ _ _)]
  exact MD_yes (RM_us r _ (by omega)) (FND_wr g _ (by omega) (by omega))
theorem m_290 (r : RM g s) (w x : Int) : AnMD g (qRule w x) (uRule s w x) (MI X (d + 1) 290 [.inr (.inr 143), .inl w, .inl x] S0 (ov g)) := by
  rw [e_290]
  simp only [↓oC_of (m_212 _ _ _ _ _), ↓if_b2i, ↓K_mod]
  unfold qRule uRule
  by_cases h0 : w < 3
  · have n1 : ¬ ruC w x := by unfold ruC; omega
    rw [if_pos h0, if_neg n1, if_neg n1]
    exact MD_deny r (FND_rf g) (by omega)
  by_cases h1 : 5 < w
  · have n1 : ¬ ruC w x := by unfold ruC; omega
    rw [if_neg h0, if_pos h1, if_neg n1, if_neg n1]
    exact MD_deny r (FND_rf g) (by omega)
  rw [if_neg h0, if_neg h1]
  have fin : ∀ (p : Prop) [Decidable p], (p ↔ ruC w x) → AnMD g (if ruC w x then (1, 0) else (0, 1)) (if ruC w x then us s w x else s) (if p then (oK (getf S0 (ov g) 11 143 0) none fun x9 => oK (ast S0 (ov g) 20 x9 w x) none fun h10 => if kd S0 143 = 11 then (oC (MI X d 200 [.inr (.inr 143), .inl 0] S0 h10) fun r11 S11 m11 => if r11 = 0 ∨ r11 = 1 then some (r11, S11, m11) else none) else none) else (oC (MI X d 200 [.inr (.inr 143), .inl 1] S0 (ov g)) fun r2 S2 m2 => if r2 = 0 ∨ r2 = 1 then some (r2, S2, m2) else none)) := by
    intro p _ hp
    by_cases h : p
    · rw [if_pos h, if_pos (hp.1 h), if_pos (hp.1 h)]
      simp (disch := omega) only [↓K_mod, ↓G_mod, ↓P_mod, ↓al_144 _, ↓as_144]
      exact MD_yes (RM_us r _ (by omega)) (FND_wr g _ (by omega) (by omega))
    · rw [if_neg h, if_neg (fun z => h (hp.2 z)), if_neg (fun z => h (hp.2 z))]
      exact MD_deny r (FND_rf g) (by omega)
  by_cases h3 : w = 3
  · rw [if_pos h3]
    have q := fin (0 ≤ x ∧ x ≤ 99) (by unfold ruC; omega)
    simp only [↓K_mod] at q
    exact q
  by_cases h4 : w = 4
  · rw [if_neg h3, if_pos h4]
    have q := fin (0 ≤ x ∧ x ≤ 9) (by unfold ruC; omega)
    simp only [↓K_mod] at q
    exact q
  rw [if_neg h3, if_neg h4]
  have q := fin (0 ≤ x ∧ x ≤ 16) (by unfold ruC; omega)
  simp only [↓K_mod] at q
  exact q
theorem Iv_uGive (hi : Iv N s) (m t : Int) : Iv N (uGive s m t) := by
  unfold uGive
  split
  case isFalse => exact hi
  case isTrue h =>
    obtain ⟨⟨h1, h2⟩, h3⟩ := h
    refine Iv_um hi _ h1.1 h1.2 (Or.inr (Or.inr ⟨rfl, ?_⟩))
    unfold giD at h3
    unfold giX
    by_cases e : t = 8
    · rw [if_pos e]; exact Or.inl rfl
    · rw [if_neg e] at h3 ⊢
      have h4 := h2.resolve_left e
      exact Or.inr ⟨h4.1, h4.2, hoN_none (of_decide_eq_true h3)⟩
theorem Iv_uMend (hi : Iv N s) (t : Int) : Iv N (uMend s t) := by
  unfold uMend
  split
  case isFalse => exact hi
  case isTrue h =>
    obtain ⟨i0, i1, i2, i3, j2, j3, j4, j5, j6, j7, j8, j9, it, -⟩ := id hi
    have q := it t h.1.1 h.1.2
    exact Iv_worn hi _ h.1.1 h.1.2 (by omega) (by omega)
theorem Iv_uHeal (hi : Iv N s) (m x : Int) : Iv N (uHeal s m x) := by
  unfold uHeal
  split
  case isFalse => exact hi
  case isTrue h => exact Iv_cu hi h.1.1.1 h.1.1.2 h.1.2.1
theorem Iv_uTrain (hi : Iv N s) (m x : Int) : Iv N (uTrain s m x) := by
  unfold uTrain
  split
  case isFalse => exact hi
  case isTrue h => exact Iv_um hi _ h.1.1 h.1.2 (Or.inl ⟨rfl, h.2⟩)
theorem Iv_uRule (hi : Iv N s) (w x : Int) : Iv N (uRule s w x) := by
  unfold uRule
  split
  case isFalse => exact hi
  case isTrue h =>
    obtain ⟨i0, i1, i2, i3, j2, j3, j4, j5, j6, j7, j8, j9, it, im, iw, ia, ih, i6, iu⟩ := id hi
    have ew : ∀ j, j ≠ w → us s w x j = s j := fun j hj => us_ne _ _ hj
    refine Iv_du hi (fun j hj => ew j ?_) ?_ ?_ (fun z => ?_)
    · unfold ruC at h; omega
    · unfold ruC at h
      rcases h with ⟨e, h⟩ | ⟨e, h⟩ | ⟨e, h⟩
      · subst e; rw [us_eq, ew 4 (by omega), ew 5 (by omega)]; omega
      · subst e; rw [us_eq, ew 3 (by omega), ew 5 (by omega)]; omega
      · subst e; rw [us_eq, ew 3 (by omega), ew 4 (by omega)]; omega
    · rw [ew 6 (by unfold ruC at h; omega)]; omega
    · have n : ∀ j, 6 ≤ j → us s w x j = s j := fun j hj => ew j (by unfold ruC at h; omega)
      rw [n 6 (by omega)] at z
      rw [n 6 (by omega), n 7 (by omega), n 8 (by omega), n 9 (by omega), n 10 (by omega)]
      exact iu z
end
