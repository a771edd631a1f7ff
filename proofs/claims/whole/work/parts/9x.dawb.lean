/-! dawn of both -/
theorem isD40 : isD 40 := Or.inr (Or.inl rfl)
/-- what reading a text may change in both, the DAWN in use apart -/
def Frd (g g' : Mem) : Prop := ∀ c i, 0 ≤ c → 0 ≤ i → ¬ ScC c → (c < 19 ∨ 39 < c) → (c ≠ 1 ∨ i < 14 ∨ 17 < i) → (c ≠ 143 ∨ (i ≠ 2 ∧ (i < 10 ∨ (20 < i ∧ i ≠ 22 ∧ i ≠ 23)))) → (c ≠ 144 ∨ (472 ≤ i ∧ i < 1888)) → (c ≠ 145 ∨ (14 ≤ i ∧ i < 56)) → (c < 150 ∨ 151 < c) → rd g' c i = rd g c i
theorem IV_rd {N : Int} {g g' : Mem} (iv : IV N g) (hD : ∃ s, DS N g' 19 0 s) (f : Frd g g') (h14 : rd g' 1 14 = 0) (h10 : rd g' 143 10 = 0) (hs : rd g' 1 15 = rd g' 143 2) (h16 : rd g' 1 16 = rd g' 143 16) (h17 : rd g' 1 17 = rd g' 143 17) : IV N g' := by
  obtain ⟨-, v2, -, -, -, v6, v7, v8, v9⟩ := iv
  have k : ∀ c i, 0 ≤ i → ((c = 1 ∧ (i < 14 ∨ 17 < i)) ∨ (4 ≤ c ∧ c ≤ 9) ∨ c = 15 ∨ (62 ≤ c ∧ c ≤ 124) ∨ c = 141 ∨ (c = 143 ∧ (i = 3 ∨ i = 4 ∨ 23 < i)) ∨ (c = 144 ∧ 472 ≤ i ∧ i < 1888) ∨ (c = 145 ∧ 14 ≤ i ∧ i < 56) ∨ (146 ≤ c ∧ c ≤ 148) ∨ c = 162) → rd g' c i = rd g c i := fun c i a h => f c i (by omega) a (by unfold ScC; omega) (by omega) (by omega) (by omega) (by omega) (by omega) (by omega)
  exact ⟨hD, TR_fr v2 (fun c i h a => k c i a (by omega)), ⟨h14.trans h10.symm, by omega, by omega, fun i a b => by omega⟩, hs, ⟨h16, h17⟩, FR2_fr v6 (fun c i h => k c i (by omega) (by omega)), MK_fr v7 (Int.le_refl _) (fun c i a h => k c i a (by omega)), LV_fr v8 (fun c i a h => k c i a (by omega)), RW_fr v9 (fun i a => k _ _ a (by omega))⟩
section
variable {X : Xs} {d : Nat} {g : Mem} {N : Int}
theorem c_188 : MI X d 188 [.inr (.inr 1)] S0 (ov g) = some (0, S0, ov (wr (wr (wr g 1 14 0) 1 16 (rd g 11 12)) 1 17 (rd g 11 13))) := by
  rw [e_188]
  simp (disch := omega) only [↓P_top, ↓G_top, ↓G_tok, rd_wr_ne]
/-- text that is not there, or too much of it -/
theorem Pr_no (iv : IV N g) {om : Mem → Option Rs} (h : om (wr g 1 15 1) = some (-1, S0, ov (wr (wr g 1 15 1) 143 2 1))) : Pr (IV N) (some (-1, S0, ov (wr g 1 15 1))) om := by
  refine Pr_eq rfl h ?_ (IV_Fz iv (Int.le_refl _) (fun c i a b _ _ h1 h2 => ?_) ?_)
  · rw [rd_wr_ne _ _ _ _ (by omega) (by omega) (by omega), rd_wr_eq, rd_wr_eq]
  · have e : ∀ (h : Mem) (c0 j x : Int), 0 ≤ c0 → 0 ≤ j → (c ≠ c0 ∨ i ≠ j) → rd (wr h c0 j x) c i = rd h c i := fun h c0 j x c00 j0 z => by
      by_cases w : c = c0
      · subst w; exact rd_wr_ix _ _ j0 b (by omega)
      · exact rd_wr_ne _ _ _ _ c00 a w
    rw [e _ _ _ _ (by omega) (by omega) h2, e _ _ _ _ (by omega) (by omega) h1]
  · rw [rd_wr_ne _ _ _ _ (by omega) (by omega) (by omega), rd_wr_eq, rd_wr_eq]
theorem m_222_no {n mx : Int} (h : n < 0 ∨ rd g 143 10 < n ∨ mx < n) : MI X (d + 1) 222 [.inr (.inr 143), .inl n, .inl mx] S0 (ov g) = some (0, S0, ov g) := by
  rw [e_222]
  by_cases a : n < 0
  · rw [if_pos a]
  · rw [if_neg a]
    simp only [↓G_mod]
    by_cases b : rd g 143 10 < n
    · rw [if_pos b]
    · rw [if_neg b, if_pos (by omega)]
theorem p_dawn (iv : IV N g) (n : Int) : Pr (IV N) (MI X (d + 40) 136 [.inr (.inr 1), .inl n] S0 (ov g)) (fun g1 => MI X (d + 40) 240 [.inr (.inr 143), .inl n] S0 (ov g1)) := by
  have iv0 := iv
  obtain ⟨⟨s0, ds0⟩, tr, ⟨tp1, tp2, tp3, tp4⟩, st, fa, fr2, mk, lv, rwd⟩ := iv
  have c183 := @c_183 X (d + 39) g 1
  rw [e_136]
  simp only [↓K_top, ↓G_top, ↓oC_of c183]
  have no : (n < 0 ∨ rd g 1 14 < n) → Pr (IV N) (some (-1, S0, ov (wr g 1 15 1))) (fun g1 => MI X (d + 40) 240 [.inr (.inr 143), .inl n] S0 (ov g1)) := fun h => by
    refine Pr_no iv0 ?_
    have h10 : rd (wr g 1 15 1) 143 10 = rd g 143 10 := rd_wr_ne _ _ _ _ (by omega) (by omega) (by omega)
    rw [e_240]
    simp only [↓K_mod, ↓oC_of (m_222_no (X := X) (d := d + 38) (g := wr g 1 15 1) (n := n) (mx := 900) (by rw [h10]; omega))]
    rw [if_pos trivial, e_201]
    simp only [↓P_mod]
    rfl
  by_cases a : n < 0
  · rw [if_pos a]; exact no (Or.inl a)
  rw [if_neg a]
  by_cases b : rd g 1 14 < n
  · rw [if_pos b]; exact no (Or.inr b)
  rw [if_neg b]
  clear no
  simp only [↓K_dre]
  have hr : txR (fun i => rd g 10 i) n := ⟨by omega, by omega, fun i x y => (tp4 i x (by omega)).2⟩
  obtain ⟨v, g1, e1, fe, h⟩ := c_46 (X := X) (d := d + 34) (g := g) (t := fun i => rd g 10 i) (n := n) isD40 hr (fun _ _ _ => rfl) rwd
  simp only [↓oC_of e1, ↓oC_of c_188]
  have r1 : ∀ c i, 0 ≤ c → 0 ≤ i → c ≠ 1 → rd (wr (wr (wr g1 1 14 0) 1 16 (rd g1 11 12)) 1 17 (rd g1 11 13)) c i = rd g1 c i := fun c i x y z => by
    rw [rd_wr_ne _ _ _ _ (by omega) x z, rd_wr_ne _ _ _ _ (by omega) x z, rd_wr_ne _ _ _ _ (by omega) x z]
  have r1' : ∀ i, 0 ≤ i → (i ≠ 14 ∧ i ≠ 16 ∧ i ≠ 17) → rd (wr (wr (wr g1 1 14 0) 1 16 (rd g1 11 12)) 1 17 (rd g1 11 13)) 1 i = rd g1 1 i := fun i y z => by
    rw [rd_wr_ix _ _ (by omega) y (by omega), rd_wr_ix _ _ (by omega) y (by omega), rd_wr_ix _ _ (by omega) y (by omega)]
  have r14 : rd (wr (wr (wr g1 1 14 0) 1 16 (rd g1 11 12)) 1 17 (rd g1 11 13)) 1 14 = 0 := by simp (disch := omega) only [rd_wr_ix, rd_wr_eq]
  have r16 : rd (wr (wr (wr g1 1 14 0) 1 16 (rd g1 11 12)) 1 17 (rd g1 11 13)) 1 16 = rd g1 11 12 := by simp (disch := omega) only [rd_wr_ix, rd_wr_eq]
  have r17 : rd (wr (wr (wr g1 1 14 0) 1 16 (rd g1 11 12)) 1 17 (rd g1 11 13)) 1 17 = rd g1 11 13 := rd_wr_eq _ _ _ _
  generalize wr (wr (wr g1 1 14 0) 1 16 (rd g1 11 12)) 1 17 (rd g1 11 13) = g2 at r1 r1' r14 r16 r17 ⊢
  -- the model, from what the class left
  have mod : ∀ g3, rd g3 143 10 = rd g 143 10 → (∀ i, 0 ≤ i → rd g3 149 i = rd g 149 i) → Ok (Qdm g3 (pDawn0 (fun i => rd g 10 i) n)) (MI X (d + 40) 240 [.inr (.inr 143), .inl n] S0 (ov g3)) := fun g3 h1 h2 => m_240 (X := X) (d := d + 29) hr (by rw [h1]; omega) (fun j x y => by rw [h2 j x]; exact (tp4 j x (by omega)).1.symm)
  have k2 : ∀ c i, 0 ≤ c → 0 ≤ i → (c < 11 ∨ 14 < c) → c ≠ 16 → (c < 40 ∨ 53 < c) → (c ≠ 1 ∨ (i ≠ 14 ∧ i ≠ 16 ∧ i ≠ 17)) → rd g2 c i = rd g c i := fun c i x y z w u l => by
    by_cases m : c = 1
    · subst m
      rw [r1' i y (by omega)]; exact fe _ _ x y z w u
    · rw [r1 c i x y m]; exact fe c i x y z w u
  cases hp : pDawn0 (fun i => rd g 10 i) n with
  | inl cp =>
    obtain ⟨c, p⟩ := cp
    rw [hp] at h
    obtain ⟨hv, hc1, hc2⟩ := h
    subst hv
    rw [if_pos rfl, oC_of (c_183 9)]
    have q2 : ∀ c' i, 0 ≤ c' → 0 ≤ i → (c' ≠ 1 ∨ i ≠ 15) → rd (wr g2 1 15 9) c' i = rd g2 c' i := fun c' i x y z => by
      by_cases m : c' = 1
      · subst m; exact rd_wr_ix _ _ (by omega) y (by omega)
      · exact rd_wr_ne _ _ _ _ (by omega) x m
    refine ⟨-1, _, rfl, ?_⟩
    refine Ok_mono (mod (wr g2 1 15 9) ?_ (fun i x => ?_)) (fun w g3 hm => ?_)
    · rw [q2 _ _ (by omega) (by omega) (by omega)]; exact k2 _ _ (by omega) (by omega) (by omega) (by omega) (by omega) (by omega)
    · rw [q2 _ _ (by omega) x (by omega)]; exact k2 _ _ (by omega) x (by omega) (by omega) (by omega) (by omega)
    · rw [hp] at hm
      obtain ⟨fq, h10, hw, h2, h16, h17, h144, h145⟩ := hm
      have k3 : ∀ c i, 0 ≤ c → 0 ≤ i → (c < 11 ∨ 14 < c) → c ≠ 16 → (c < 40 ∨ 53 < c) → (c ≠ 1 ∨ (i < 14 ∨ 17 < i)) → (c ≠ 143 ∨ (i ≠ 2 ∧ (i < 10 ∨ 20 < i))) → (c ≠ 144 ∨ i < 1888) → (c ≠ 145 ∨ i < 56) → c ≠ 150 → rd g3 c i = rd g c i := fun c i x y z w u l o1 o2 o3 o4 => by
        have e : rd g3 c i = rd (wr g2 1 15 9) c i := by
          by_cases m : c = 144 ∧ i < 472
          · obtain ⟨rfl, m⟩ := m; exact h144 i y m
          · by_cases m' : c = 145 ∧ i < 14
            · obtain ⟨rfl, m'⟩ := m'; exact h145 i y m'
            · exact fq c i x y o1 (by omega) (by omega) o4
        rw [e, q2 c i x y (by omega)]
        exact k2 c i x y z w u (by omega)
      have g1x : ∀ i, 0 ≤ i → rd g3 1 i = rd (wr g2 1 15 9) 1 i := fun i x => fq _ _ (by omega) x (by omega) (by omega) (by omega) (by omega)
      have s15 : rd g3 1 15 = 9 := by rw [g1x _ (by omega)]; exact rd_wr_eq _ _ _ _
      refine ⟨hw.symm, s15.trans h2.symm, IV_rd iv0 ⟨s0, DS_fr ds0 (fun c i x y z => k3 c i (by omega) z (by omega) (by omega) (by omega) (by omega) (by omega) (by omega) (by omega) (by omega)) (fun i x y => k3 _ _ (by omega) (by omega) (by omega) (by omega) (by omega) (by omega) (by omega) (by omega) (by omega) (by omega)) (fun i x y => k3 _ _ (by omega) (by omega) (by omega) (by omega) (by omega) (by omega) (by omega) (by omega) (by omega) (by omega))⟩ (fun c i x y z1 z2 z3 z4 z5 z6 z7 => k3 c i x y (by unfold ScC at z1; omega) (by unfold ScC at z1; omega) (by unfold ScC at z1; omega) z3 (by omega) (by omega) (by omega) (by omega)) ?_ h10 (s15.trans h2.symm) ?_ ?_⟩
      · rw [g1x _ (by omega), q2 _ _ (by omega) (by omega) (by omega)]; exact r14
      · rw [g1x _ (by omega), q2 _ _ (by omega) (by omega) (by omega), r16, hc1, h16]
      · rw [g1x _ (by omega), q2 _ _ (by omega) (by omega) (by omega), r17, hc2, h17]
  | inr sn =>
    obtain ⟨s, nm⟩ := sn
    rw [hp] at h
    obtain ⟨hv, dc, pu, ⟨hc1, hc2⟩, y0, y1⟩ := h
    subst hv
    rw [if_neg (show ¬ (1 : Int) = 0 by omega)]
    simp only [↓G_top, ↓K_daw isD19]
    have dc2 : DC 40 g2 s nm := DC_fr isD40 dc (fun c i x y z => r1 c i (by omega) z (by omega))
    have y02 : rd g2 (40 + 13) 0 = 0 := (r1 _ _ (by omega) (by omega) (by omega)).trans y0
    have y12 : rd g2 (40 + 13) 1 = 0 := (r1 _ _ (by omega) (by omega) (by omega)).trans y1
    obtain ⟨v3, g3, e3, tk, fb⟩ := c_19 (X := X) (d := d + 38) (g := g2) isD19 isD40 (by decide) (Or.inl y02) (by omega) (by omega)
    obtain ⟨i0, i1, i2, i3, -⟩ := id pu.1
    obtain ⟨rr, zz, n1, n2⟩ := dc2
    have rr3 := RD_TK rr tk i1 i3
    have dc3 : DC 19 g3 s nm := by
      obtain ⟨-, ta, -⟩ := tk
      exact ⟨rr3, fun i x y => (ta 10 i (by omega) (by omega) x y).trans (zz i x y), fun i x y => (ta 11 i (by omega) (by omega) x (by have : ((lnD 11 : Nat) : Int) = 8 := rfl; omega)).trans (n1 i x y), fun i x y => (ta 12 i (by omega) (by omega) x (by have : ((lnD 12 : Nat) : Int) = 6 := rfl; omega)).trans (n2 i x y)⟩
    have y03 : rd g3 (19 + 13) 0 = 0 := tk.2.2.1.trans y02
    have y13 : rd g3 (19 + 13) 1 = 0 := tk.2.2.2.1.trans y12
    simp only [↓oC_of e3, ↓G_top, ↓G_daw isD19, rr3.2.1, ↓oC_of (c_181 _)]
    have q2 : ∀ c' i, 0 ≤ c' → 0 ≤ i → (c' ≠ 1 ∨ i ≠ 15) → rd (wr g3 1 15 0) c' i = rd g3 c' i := fun c' i x y z => by
      by_cases m : c' = 1
      · subst m; exact rd_wr_ix _ _ (by omega) y (by omega)
      · exact rd_wr_ne _ _ _ _ (by omega) x m
    have k4 : ∀ c i, 0 ≤ c → 0 ≤ i → (c < 11 ∨ 14 < c) → c ≠ 16 → (c < 19 ∨ 53 < c) → (c ≠ 1 ∨ (i < 14 ∨ 17 < i)) → rd (wr g3 1 15 0) c i = rd g c i := fun c i x y z w u l => by
      rw [q2 c i x y (by omega), fb c i x y (by omega)]
      exact k2 c i x y z w (by omega) (by omega)
    have s15' : rd (wr g3 1 15 0) 1 15 = 0 := rd_wr_eq _ _ _ _
    have g14 : rd (wr g3 1 15 0) 1 14 = 0 := by rw [q2 _ _ (by omega) (by omega) (by omega), fb _ _ (by omega) (by omega) (by omega)]; exact r14
    have g16 : rd (wr g3 1 15 0) 1 16 = 0 := by rw [q2 _ _ (by omega) (by omega) (by omega), fb _ _ (by omega) (by omega) (by omega)]; exact r16.trans hc1
    have g17 : rd (wr g3 1 15 0) 1 17 = -1 := by rw [q2 _ _ (by omega) (by omega) (by omega), fb _ _ (by omega) (by omega) (by omega)]; exact r17.trans hc2
    have dc4 : DC 19 (wr g3 1 15 0) s nm := DC_fr isD19 dc3 (fun c i x y z => q2 c i (by omega) z (by omega))
    have y04 : rd (wr g3 1 15 0) (19 + 13) 0 = 0 := (q2 _ _ (by omega) (by omega) (by omega)).trans y03
    have y14 : rd (wr g3 1 15 0) (19 + 13) 1 = 0 := (q2 _ _ (by omega) (by omega) (by omega)).trans y13
    refine ⟨s 1, _, rfl, ?_⟩
    generalize wr g3 1 15 0 = g4 at k4 s15' g14 g16 g17 dc4 y04 y14 ⊢
    refine Ok_mono (mod g4 (k4 _ _ (by omega) (by omega) (by omega) (by omega) (by omega) (by omega)) (fun i x => k4 _ _ (by omega) x (by omega) (by omega) (by omega) (by omega))) (fun w g5 hm => ?_)
    rw [hp] at hm
    obtain ⟨fq, h10, hw, h2, h16, h17, h144, h145, h1458, -⟩ := hm
    have k5 : ∀ c i, 0 ≤ c → 0 ≤ i → c < 143 → rd g5 c i = rd g4 c i := fun c i x y z => fq c i x y (by omega) (by omega) (by omega) (by omega)
    have dc5 : DC 19 g5 s nm := DC_fr isD19 dc4 (fun c i x y z => k5 c i (by omega) z (by omega))
    have n0 := IV_0 iv0
    refine ⟨hw.symm, (k5 _ _ (by omega) (by omega) (by omega)).trans (s15'.trans h2.symm), IV_rd iv0 ⟨s, dc5.1, fun i x y => ?_, Iv_le pu.1 n0, ⟨fun i x y => ?_, fun i x y => ?_⟩, ⟨?_, ?_⟩, Or.inl ⟨?_, pu.2.2.1⟩⟩ (fun c i x y z1 z2 z3 z4 z5 z6 z7 => ?_) ((k5 _ _ (by omega) (by omega) (by omega)).trans g14) h10 ((k5 _ _ (by omega) (by omega) (by omega)).trans (s15'.trans h2.symm)) ((k5 _ _ (by omega) (by omega) (by omega)).trans (g16.trans h16.symm)) ((k5 _ _ (by omega) (by omega) (by omega)).trans (g17.trans h17.symm))⟩
    · rw [show (472 : Int) * 0 + i = i by omega]; exact h144 i x y
    · rw [show (14 : Int) * 0 + i = i by omega]; exact (dc5.2.2.1 i x y).trans (h145 i x y).symm
    · rw [show (14 : Int) * 0 + 8 + i = 8 + i by omega]; exact (dc5.2.2.2 i x y).trans (h1458 i x y).symm
    · rw [k5 _ _ (by omega) (by omega) (by omega), y14]; omega
    · rw [k5 _ _ (by omega) (by omega) (by omega), y14]; omega
    · rw [k5 _ _ (by omega) (by omega) (by omega)]; exact y04
    · rw [fq c i x y (by omega) z5 z6 (by omega)]
      exact k4 c i x y (by unfold ScC at z1; omega) (by unfold ScC at z1; omega) (by unfold ScC at z1; omega) z3
end
