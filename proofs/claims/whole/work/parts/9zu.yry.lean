/-! years of both -/
theorem Iv_11 {N : Int} {s : Int → Int} (hi : Iv N s) (x : Int) : Iv N (us s 11 x) := by
  obtain ⟨i0, i1, i2, i3, j2, j3, j4, j5, j6, j7, j8, j9, it, im, iw, ia, ih, i6, iu⟩ := hi
  have hy : ∀ j, j ≠ 11 → us s 11 x j = s j := fun j h => us_ne s x h
  have mm : ∀ i w, 0 ≤ i → 0 ≤ w → mn (us s 11 x) i w = mn s i w := fun i w a b => hy _ (by omega)
  have tt : ∀ i w, 0 ≤ i → 0 ≤ w → th (us s 11 x) i w = th s i w := fun i w a b => hy _ (by omega)
  have ax : awN (us s 11 x) = awN s := aw_eq (hy 1 (by omega)) (fun i o a b c e => mm _ _ a (by omega))
  unfold Iv
  rw [hy 0 (by omega), hy 1 (by omega), hy 2 (by omega), hy 3 (by omega), hy 4 (by omega), hy 5 (by omega), hy 6 (by omega), hy 7 (by omega), hy 8 (by omega), hy 9 (by omega), hy 10 (by omega), ax]
  refine ⟨i0, i1, i2, i3, j2, j3, j4, j5, j6, j7, j8, j9, fun i a b => ?_, fun i a b => ?_, fun i o a b c e => ?_, ia, fun i o a b c e f => ?_, i6, fun z => ?_⟩
  · rw [tt i 0 a (by omega), tt i 1 a (by omega), tt i 2 a (by omega), tt i 3 a (by omega)]
    exact it i a b
  · rw [mm i 0 a (by omega), mm i 1 a (by omega), mm i 2 a (by omega), mm i 3 a (by omega)]
    exact im i a b
  · rw [mm i _ a (by omega)]; exact iw i o a b c e
  · rw [mm i 3 a (by omega), mm o 3 c (by omega)]; exact ih i o a b c e f
  · obtain ⟨u0, u1, u2, u3, u4, u5, u6, u7, u8, u9, u10, u11⟩ := iu z
    rw [mm (s 6) 1 u0 (by omega), mm (s 7) 1 u2 (by omega)]
    exact ⟨u0, u1, u2, u3, u4, u5, u6, u7, u8, u9, u10, u11⟩
theorem RD_11 {g g' : Mem} {b : Int} {s : Int → Int} (r : RD g b s) (x : Int) (f : ∀ c i, b ≤ c → c ≤ b + 12 → 0 ≤ i → rd g' c i = rd g c i) : RD g' b (us s 11 x) := by
  obtain ⟨r0, r1, r2, rt, rm, rw', r6, r7⟩ := r
  have hy : ∀ j, j ≠ 11 → us s 11 x j = s j := fun j h => us_ne s x h
  unfold RD
  rw [hy 0 (by omega), hy 1 (by omega), hy 6 (by omega), hy 7 (by omega), hy 8 (by omega), hy 9 (by omega), hy 10 (by omega), f _ _ (by omega) (by omega) (by omega), f _ _ (by omega) (by omega) (by omega), f _ _ (by omega) (by omega) (by omega), f _ _ (by omega) (by omega) (by omega), f _ _ (by omega) (by omega) (by omega), f _ _ (by omega) (by omega) (by omega), f _ _ (by omega) (by omega) (by omega)]
  refine ⟨r0, r1, fun j a c => ?_, fun t a c => ?_, fun m a c => ?_, fun m o a c e f' => ?_, r6, r7⟩
  · rw [f _ _ (by omega) (by omega) a, hy _ (by omega)]; exact r2 j a c
  · unfold th
    rw [f _ _ (by omega) (by omega) a, f _ _ (by omega) (by omega) a, f _ _ (by omega) (by omega) a, f _ _ (by omega) (by omega) a, hy _ (by omega), hy _ (by omega), hy _ (by omega), hy _ (by omega)]
    exact rt t a c
  · unfold mn
    rw [f _ _ (by omega) (by omega) a, f _ _ (by omega) (by omega) a, f _ _ (by omega) (by omega) a, f _ _ (by omega) (by omega) a, hy _ (by omega), hy _ (by omega), hy _ (by omega), hy _ (by omega)]
    exact rm m a c
  · unfold mn
    rw [f _ _ (by omega) (by omega) (by omega), hy _ (by omega)]
    exact rw' m o a c e f'
section
variable {X : Xs} {d : Nat} {g : Mem} {N : Int}
theorem p_years (iv : IV N g) (n : Int) : Pr (IV N) (MI X (d + 40) 137 [.inr (.inr 1), .inl n] S0 (ov g)) (fun g1 => MI X (d + 40) 245 [.inr (.inr 143), .inl n] S0 (ov g1)) := by
  have iv0 := iv
  obtain ⟨⟨s, ds0⟩, tr, ⟨tp1, tp2, tp3, tp4⟩, st, fa, fr2, mk, lv, rwd⟩ := iv
  obtain ⟨dr, dm, di, ⟨nm1, nm2⟩, dy⟩ := id ds0
  obtain ⟨i0, i1, i2, i3, -⟩ := id di
  have c183 := @c_183 X (d + 39) g 1
  rw [e_137]
  simp only [↓K_top, ↓G_top, ↓oC_of c183]
  have no : (n < 0 ∨ rd g 1 14 < n ∨ 300 < n) → Pr (IV N) (some (-1, S0, ov (wr g 1 15 1))) (fun g1 => MI X (d + 40) 245 [.inr (.inr 143), .inl n] S0 (ov g1)) := fun h => by
    refine Pr_no iv0 ?_
    have h10 : rd (wr g 1 15 1) 143 10 = rd g 143 10 := rd_wr_ne _ _ _ _ (by omega) (by omega) (by omega)
    rw [e_245]
    simp only [↓K_mod, ↓oC_of (m_222_no (X := X) (d := d + 38) (g := wr g 1 15 1) (n := n) (mx := 300) (by rw [h10]; omega))]
    rw [if_pos trivial, e_201]
    simp only [↓P_mod]
    rfl
  by_cases a : n < 0
  · rw [if_pos a]; exact no (Or.inl a)
  rw [if_neg a]
  by_cases b : rd g 1 14 < n
  · rw [if_pos b]; exact no (Or.inr (Or.inl b))
  rw [if_neg b]
  by_cases b3 : 300 < n
  · rw [if_pos b3]; exact no (Or.inr (Or.inr b3))
  rw [if_neg b3]
  clear no
  simp only [↓K_yre, ↓G_daw isD40]
  have hr : txR (fun i => rd g 10 i) n := ⟨by omega, by omega, fun i x y => (tp4 i x (by omega)).2⟩
  obtain ⟨v, g1, e1, fe, h⟩ := c_118 (X := X) (d := d + 32) (g := g) (t := fun i => rd g 10 i) (n := n) (nm := fun i => rd g 145 i) isD40 isD19 (by decide) di hr (fun _ _ _ => rfl) rwd dr (fun i x y => (nm1 i x y).trans (by rw [show (14 : Int) * 0 + i = i by omega])) (fun i x y => (nm2 i x y).trans (by rw [show (14 : Int) * 0 + 8 + i = 8 + i by omega]))
  simp only [↓oC_of e1, ↓oC_of c_188]
  have r1 : ∀ c i, 0 ≤ c → 0 ≤ i → c ≠ 1 → rd (wr (wr (wr g1 1 14 0) 1 16 (rd g1 11 12)) 1 17 (rd g1 11 13)) c i = rd g1 c i := fun c i x y z => by
    rw [rd_wr_ne _ _ _ _ (by omega) x z, rd_wr_ne _ _ _ _ (by omega) x z, rd_wr_ne _ _ _ _ (by omega) x z]
  have r1' : ∀ i, 0 ≤ i → (i ≠ 14 ∧ i ≠ 16 ∧ i ≠ 17) → rd (wr (wr (wr g1 1 14 0) 1 16 (rd g1 11 12)) 1 17 (rd g1 11 13)) 1 i = rd g1 1 i := fun i y z => by
    rw [rd_wr_ix _ _ (by omega) y (by omega), rd_wr_ix _ _ (by omega) y (by omega), rd_wr_ix _ _ (by omega) y (by omega)]
  have r14 : rd (wr (wr (wr g1 1 14 0) 1 16 (rd g1 11 12)) 1 17 (rd g1 11 13)) 1 14 = 0 := by simp (disch := omega) only [rd_wr_ix, rd_wr_eq]
  have r16 : rd (wr (wr (wr g1 1 14 0) 1 16 (rd g1 11 12)) 1 17 (rd g1 11 13)) 1 16 = rd g1 11 12 := by simp (disch := omega) only [rd_wr_ix, rd_wr_eq]
  have r17 : rd (wr (wr (wr g1 1 14 0) 1 16 (rd g1 11 12)) 1 17 (rd g1 11 13)) 1 17 = rd g1 11 13 := rd_wr_eq _ _ _ _
  generalize wr (wr (wr g1 1 14 0) 1 16 (rd g1 11 12)) 1 17 (rd g1 11 13) = g2 at r1 r1' r14 r16 r17 ⊢
  -- the model, from what the class left
  have mod : ∀ g3, rd g3 143 10 = rd g 143 10 → (∀ c i, 0 ≤ i → (c = 149 ∨ c = 144 ∨ c = 145) → rd g3 c i = rd g c i) → Ok (Qym g3 (pYears0 (fun i => rd g 10 i) n s (fun i => rd g 145 i))) (MI X (d + 40) 245 [.inr (.inr 143), .inl n] S0 (ov g3)) := fun g3 h1 h2 => by
    refine m_245 (X := X) (d := d + 27) hr (by omega) di ⟨?_, ?_, fun i x y => h2 _ _ x (by omega), fun i x y => h2 _ _ (by omega) (by omega)⟩ (by rw [h1]; omega) (fun j x y => by rw [h2 149 j x (by omega)]; exact (tp4 j x (by omega)).1.symm)
    · rw [h2 144 0 (by omega) (by omega)]; exact dm 0 (by omega) (by omega)
    · rw [h2 144 1 (by omega) (by omega)]; exact dm 1 (by omega) (by omega)
  have k2 : ∀ c i, 0 ≤ c → 0 ≤ i → (c < 11 ∨ 14 < c) → c ≠ 17 → c ≠ 18 → (c < 53 ∨ 60 < c) → (c ≠ 1 ∨ (i ≠ 14 ∧ i ≠ 16 ∧ i ≠ 17)) → rd g2 c i = rd g c i := fun c i x y z w w' u l => by
    by_cases m : c = 1
    · subst m
      rw [r1' i y (by omega)]; exact fe _ _ x y z w w' (by omega)
    · rw [r1 c i x y m]; exact fe c i x y z w w' (by omega)
  cases hp : pYears0 (fun i => rd g 10 i) n s (fun i => rd g 145 i) with
  | inl cp =>
    obtain ⟨c, p⟩ := cp
    rw [hp] at h
    obtain ⟨hv, hc1, hc2⟩ := h
    subst hv
    rw [if_pos rfl, oC_of (c_183 9)]
    have q2 : ∀ c' i, 0 ≤ c' → 0 ≤ i → (c' ≠ 1 ∨ i ≠ 15) → rd (wr g2 1 15 9) c' i = rd g2 c' i := fun c' i x y z => by
      by_cases m : c' = 1
      · subst m; exact rd_wr_ix _ _ (by omega) y (by omega)
      · exact rd_wr_ne _ _ _ _ (by omega) x m
    have q3 : ∀ c' i, 0 ≤ c' → 0 ≤ i → 61 ≤ c' → rd (wr g2 1 15 9) c' i = rd g c' i := fun c' i x y z => by
      rw [q2 c' i x y (by omega)]; exact k2 c' i x y (by omega) (by omega) (by omega) (by omega) (by omega)
    refine ⟨-1, _, rfl, ?_⟩
    refine Ok_mono (mod (wr g2 1 15 9) (q3 _ _ (by omega) (by omega) (by omega)) (fun c' i x y => q3 _ _ (by omega) x (by omega))) (fun w g3 hm => ?_)
    rw [hp] at hm
    obtain ⟨fq, h10, hw, h2, h16, h17, h144⟩ := hm
    have k3 : ∀ c i, 0 ≤ c → 0 ≤ i → (c < 11 ∨ 14 < c) → c ≠ 17 → c ≠ 18 → (c < 53 ∨ 60 < c) → (c ≠ 1 ∨ (i < 14 ∨ 17 < i)) → (c ≠ 143 ∨ (i ≠ 2 ∧ (i < 10 ∨ (20 < i ∧ i ≠ 22 ∧ i ≠ 23)))) → (c ≠ 144 ∨ i < 1888) → (c ≠ 145 ∨ i < 56) → c ≠ 150 → c ≠ 151 → rd g3 c i = rd g c i := fun c i x y z w w' u l o1 o2 o3 o4 o5 => by
      have e : rd g3 c i = rd (wr g2 1 15 9) c i := by
        by_cases m : c = 144 ∧ i < 472
        · obtain ⟨rfl, m⟩ := m; exact h144 i y m
        · exact fq c i x y o1 (by omega) o3 o4 o5
      rw [e, q2 c i x y (by omega)]
      exact k2 c i x y z w w' u (by omega)
    have g1x : ∀ i, 0 ≤ i → rd g3 1 i = rd (wr g2 1 15 9) 1 i := fun i x => fq _ _ (by omega) x (by omega) (by omega) (by omega) (by omega) (by omega)
    have s15 : rd g3 1 15 = 9 := by rw [g1x _ (by omega)]; exact rd_wr_eq _ _ _ _
    refine ⟨hw.symm, s15.trans h2.symm, IV_rd iv0 ⟨s, DS_fr ds0 (fun c i x y z => k3 c i (by omega) z (by omega) (by omega) (by omega) (by omega) (by omega) (by omega) (by omega) (by omega) (by omega) (by omega)) (fun i x y => k3 _ _ (by omega) (by omega) (by omega) (by omega) (by omega) (by omega) (by omega) (by omega) (by omega) (by omega) (by omega) (by omega)) (fun i x y => k3 _ _ (by omega) (by omega) (by omega) (by omega) (by omega) (by omega) (by omega) (by omega) (by omega) (by omega) (by omega) (by omega))⟩ (fun c i x y z1 z2 z3 z4 z5 z6 z7 => k3 c i x y (by unfold ScC at z1; omega) (by unfold ScC at z1; omega) (by unfold ScC at z1; omega) (by unfold ScC at z1; omega) z3 (by omega) (by omega) (by omega) (by omega) (by omega)) ?_ h10 (s15.trans h2.symm) ?_ ?_⟩
    · rw [g1x _ (by omega), q2 _ _ (by omega) (by omega) (by omega)]; exact r14
    · rw [g1x _ (by omega), q2 _ _ (by omega) (by omega) (by omega), r16, hc1, h16]
    · rw [g1x _ (by omega), q2 _ _ (by omega) (by omega) (by omega), r17, hc2, h17]
  | inr sn =>
    obtain ⟨R, np, ns⟩ := sn
    rw [hp] at h
    obtain ⟨hv, ⟨hc1, hc2⟩, y0, y1, bn, bp, f, blk⟩ := h
    subst hv
    rw [if_neg (show ¬ (1 : Int) = 0 by omega)]
    have y02 : rd g2 (40 + 13) 0 = 1 := (r1 _ _ (by omega) (by omega) (by omega)).trans y0
    have y12 : rd g2 (40 + 13) 1 = ns := (r1 _ _ (by omega) (by omega) (by omega)).trans y1
    obtain ⟨v3, g3, e3, t0, t1, tc, fb⟩ := c_116 (X := X) (d := d + 39) (g := g2) isD19 isD40 (by decide) (Or.inr y02) (by omega) (by omega)
    simp only [↓G_top, ↓G_daw isD19, ↓G_daw isD40, ↓K_yrs isD19, ↓oC_of e3, ↓G_yrs isD19, t1, y12, ↓oC_of (c_181 _)]
    have q2 : ∀ c' i, 0 ≤ c' → 0 ≤ i → (c' ≠ 1 ∨ i ≠ 15) → rd (wr g3 1 15 0) c' i = rd g3 c' i := fun c' i x y z => by
      by_cases m : c' = 1
      · subst m; exact rd_wr_ix _ _ (by omega) y (by omega)
      · exact rd_wr_ne _ _ _ _ (by omega) x m
    have k4 : ∀ c i, 0 ≤ c → 0 ≤ i → (c < 11 ∨ 14 < c) → c ≠ 17 → c ≠ 18 → (c < 32 ∨ 39 < c) → (c < 53 ∨ 60 < c) → (c ≠ 1 ∨ (i < 14 ∨ 17 < i)) → rd (wr g3 1 15 0) c i = rd g c i := fun c i x y z w w' u u' l => by
      rw [q2 c i x y (by omega), fb c i x y (by omega)]
      exact k2 c i x y z w w' u' (by omega)
    have s15' : rd (wr g3 1 15 0) 1 15 = 0 := rd_wr_eq _ _ _ _
    have g14 : rd (wr g3 1 15 0) 1 14 = 0 := by rw [q2 _ _ (by omega) (by omega) (by omega), fb _ _ (by omega) (by omega) (by omega)]; exact r14
    have g16 : rd (wr g3 1 15 0) 1 16 = 0 := by rw [q2 _ _ (by omega) (by omega) (by omega), fb _ _ (by omega) (by omega) (by omega)]; exact r16.trans hc1
    have g17 : rd (wr g3 1 15 0) 1 17 = -1 := by rw [q2 _ _ (by omega) (by omega) (by omega), fb _ _ (by omega) (by omega) (by omega)]; exact r17.trans hc2
    have y04 : rd (wr g3 1 15 0) (19 + 13) 0 = 1 := ((q2 _ _ (by omega) (by omega) (by omega)).trans t0).trans y02
    have y14 : rd (wr g3 1 15 0) (19 + 13) 1 = ns := ((q2 _ _ (by omega) (by omega) (by omega)).trans t1).trans y12
    have tc4 : ∀ k i, 0 ≤ k → k ≤ 6 → 0 ≤ i → i < ns → cwG (wr g3 1 15 0) 19 k i = cwG g1 40 k i := fun k i x y z w => by
      show rd (wr g3 1 15 0) (19 + 14 + k) i = rd g1 (40 + 14 + k) i
      rw [q2 _ _ (by omega) z (by omega), show (19 : Int) + 14 + k = 19 + (14 + k) by omega, tc (14 + k) i (by omega) (by omega) z (by rw [y12]; exact w), show (40 : Int) + (14 + k) = 40 + 14 + k by omega]
      exact r1 _ _ (by omega) z (by omega)
    refine ⟨ns, _, rfl, ?_⟩
    generalize wr g3 1 15 0 = g4 at k4 s15' g14 g16 g17 y04 y14 tc4 ⊢
    have k4' : ∀ c i, 0 ≤ i → 61 ≤ c → rd g4 c i = rd g c i := fun c i x y => k4 c i (by omega) x (by omega) (by omega) (by omega) (by omega) (by omega) (by omega)
    refine Ok_mono (mod g4 (k4' _ _ (by omega) (by omega)) (fun c i x y => k4' _ _ x (by omega))) (fun w g5 hm => ?_)
    rw [hp] at hm
    obtain ⟨fq, h10, hw, h2, h16, h17, h11, hR⟩ := hm
    have k5 : ∀ c i, 0 ≤ c → 0 ≤ i → c < 143 → rd g5 c i = rd g4 c i := fun c i x y z => fq c i x y (by omega) (by omega) (by omega) (by omega) (by omega)
    have k5m : ∀ i, 0 ≤ i → i < 104 → i ≠ 11 → rd g5 144 i = rd g 144 i := fun i x y z => (fq _ _ (by omega) x (by omega) (by omega) (by omega) (by omega) (by omega)).trans (k4' _ _ x (by omega))
    have k5n : ∀ i, 0 ≤ i → i < 56 → rd g5 145 i = rd g 145 i := fun i x y => (fq _ _ (by omega) x (by omega) (by omega) (by omega) (by omega) (by omega)).trans (k4' _ _ x (by omega))
    have k5d : ∀ c i, 19 ≤ c → c ≤ 31 → 0 ≤ i → rd g5 c i = rd g c i := fun c i x y z => (k5 c i (by omega) z (by omega)).trans (k4 c i (by omega) z (by omega) (by omega) (by omega) (by omega) (by omega) (by omega))
    have u0 : us s 11 np 0 = s 0 := us_ne _ _ (by omega)
    have u1 : us s 11 np 1 = s 1 := us_ne _ _ (by omega)
    have u11 : us s 11 np 11 = np := us_eq _ _ _
    refine ⟨hw.symm, (k5 _ _ (by omega) (by omega) (by omega)).trans (s15'.trans h2.symm), IV_rd iv0 ⟨us s 11 np, RD_11 dr np (fun c i x y z => k5d c i x (by omega) z), fun i x y => ?_, Iv_11 di np, ⟨fun i x y => ?_, fun i x y => ?_⟩, ⟨?_, Or.inr ⟨?_, by omega, by omega, f, ?_⟩⟩⟩ (fun c i x y z1 z2 z3 z4 z5 z6 z7 => ?_) ((k5 _ _ (by omega) (by omega) (by omega)).trans g14) h10 ((k5 _ _ (by omega) (by omega) (by omega)).trans (s15'.trans h2.symm)) ((k5 _ _ (by omega) (by omega) (by omega)).trans (g16.trans h16.symm)) ((k5 _ _ (by omega) (by omega) (by omega)).trans (g17.trans h17.symm))⟩
    · rw [show (472 : Int) * 0 + i = i by omega]
      by_cases z : i = 11
      · rw [z, u11]; exact h11
      · rw [us_ne _ _ z, k5m i x y z]
        have := dm i x y
        rw [show (472 : Int) * 0 + i = i by omega] at this
        exact this
    · rw [u0] at y
      rw [k5d _ _ (by omega) (by omega) x, nm1 i x y]
      exact (k5n _ (by omega) (by omega)).symm
    · rw [u1] at y
      rw [k5d _ _ (by omega) (by omega) x, nm2 i x y]
      exact (k5n _ (by omega) (by omega)).symm
    · rw [k5 _ _ (by omega) (by omega) (by omega), y14]; omega
    · rw [k5 _ _ (by omega) (by omega) (by omega)]; exact y04
    · rw [u0, u1, u11, k5 _ _ (by omega) (by omega) (by omega), y14]
      refine Blk_congr (Int.le_refl _) f 0 _ _ _ _ (fun k i x y z w => ?_) (fun r k x y z w => ?_) blk
      · rw [← tc4 k i x y z w]
        exact k5 _ _ (by omega) z (by omega)
      · show rd g5 144 (472 * 0 + 104 + 6 * r + k) = R r k
        rw [show (472 : Int) * 0 + 104 + 6 * r + k = 104 + 6 * r + k by omega]
        exact hR r k x y z w
    · rw [fq c i x y (by omega) (by omega) (by omega) (by omega) (by omega)]
      exact k4 c i x y (by unfold ScC at z1; omega) (by unfold ScC at z1; omega) (by unfold ScC at z1; omega) (by omega) (by unfold ScC at z1; omega) z3
end
