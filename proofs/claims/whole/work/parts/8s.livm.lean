/-! LIVING: one row, the model -/
def RN (g : Mem) (c : Int → Int) : Prop := rd g 143 33 = c 1 ∧ rd g 143 34 = c 3 ∧ rd g 161 0 = c 4 ∧ rd g 161 1 = c 5 ∧ rd g 161 2 = c 6 ∧ rd g 161 3 = c 7 ∧ rd g 161 4 = c 8
/-- nothing but the DAWN, the counts, the loops is other -/
def FV (g g' : Mem) : Prop := ∀ c i, 0 ≤ c → 0 ≤ i → (c ≠ 144 ∨ 104 ≤ i) → c ≠ 160 → c ≠ 161 → (c ≠ 143 ∨ (i ≠ 33 ∧ i ≠ 34)) → rd g' c i = rd g c i
theorem FV_rf (g : Mem) : FV g g := fun _ _ _ _ _ _ _ _ => rfl
theorem FV_tr {g g1 g2 : Mem} (h1 : FV g g1) (h2 : FV g1 g2) : FV g g2 := fun c i a b e f k l => (h2 c i a b e f k l).trans (h1 c i a b e f k l)
theorem FV_FM {g g1 : Mem} (h : FM g g1) : FV g g1 := fun c i a b e f k l => h c i a b e
theorem FV_wr (g : Mem) {c : Int} (i x : Int) (h : c = 160 ∨ c = 161) : FV g (wr g c i x) := fun a j h0 h1 h2 h3 h4 h5 => rd_wr_ne _ _ _ _ (by omega) h0 (by omega)
theorem FV_143 (g : Mem) {i : Int} (x : Int) (h : i = 33 ∨ i = 34) : FV g (wr g 143 i x) := fun a j h0 h1 h2 h3 h4 h5 => by
  by_cases z : a = 143
  · subst z; exact rd_wr_ix _ _ (by omega) h1 (by omega)
  · exact rd_wr_ne _ _ _ _ (by omega) h0 z
theorem RN_fr {g g' : Mem} {c : Int → Int} (r : RN g c) (f : ∀ i, 0 ≤ i → rd g' 161 i = rd g 161 i) (h : rd g' 143 33 = rd g 143 33) (h2 : rd g' 143 34 = rd g 143 34) : RN g' c := by
  unfold RN at *
  rw [f 0 (by omega), f 1 (by omega), f 2 (by omega), f 3 (by omega), f 4 (by omega), h, h2]
  exact r
theorem RN_FM {g g' : Mem} {c : Int → Int} (r : RN g c) (f : FM g g') : RN g' c := RN_fr r (fun i h => f _ _ (by omega) h (by omega)) (f _ _ (by omega) (by omega) (by omega)) (f _ _ (by omega) (by omega) (by omega))
def laK (s c : Int → Int) (a : Int) : Int → Int := if laP s a then us (us (us c 5 (c 5 + 1)) 7 (c 7 + tkB (boN s) a)) 6 (c 6 + (if acS s a 6 = -1 then 1 else 0)) else c
abbrev doB (s c : Int → Int) (W A O : Int) : Prop := (W = 12 ∧ meP s A O) ∨ (W ≠ 12 ∧ W = 17 ∧ cuP s A) ∨ (W ≠ 12 ∧ W ≠ 17 ∧ W = 18 ∧ laP s (drN c / 8 % 4)) ∨ (W ≠ 12 ∧ W ≠ 17 ∧ W ≠ 18 ∧ laP s (W - 13))
def doK (s c : Int → Int) (W : Int) : Int → Int := if W = 12 then c else if W = 17 then c else if W = 18 then laK s (us c 1 (drN c)) (drN c / 8 % 4) else laK s c (W - 13)
theorem la_CK (s c : Int → Int) (a : Int) : laC s c a = if laP s a then laK s c a else us (laK s c a) 4 (laK s c a 4 + 1) := by
  unfold laC laK
  by_cases h : laP s a
  · rw [if_pos h, if_pos h, if_pos h]
  · rw [if_neg h, if_neg h, if_neg h]
theorem do_CK (s c : Int → Int) (W A O Z : Int) : doC s c W A O Z = if doB s c W A O then doK s c W else us (doK s c W) 4 (doK s c W 4 + 1) := by
  unfold doC doK
  by_cases h1 : W = 12
  · rw [if_pos h1, if_pos h1]
    by_cases p : meP s A O
    · rw [if_pos p, if_pos (show doB s c W A O from Or.inl ⟨h1, p⟩)]
    · rw [if_neg p, if_neg (show ¬ doB s c W A O from fun z => by
        rcases z with z | z | z | z
        · exact p z.2
        · exact z.1 h1
        · exact z.1 h1
        · exact z.1 h1)]
  rw [if_neg h1, if_neg h1]
  by_cases h2 : W = 17
  · rw [if_pos h2, if_pos h2]
    by_cases p : cuP s A
    · rw [if_pos p, if_pos (show doB s c W A O from Or.inr (Or.inl ⟨h1, h2, p⟩))]
    · rw [if_neg p, if_neg (show ¬ doB s c W A O from fun z => by
        rcases z with z | z | z | z
        · exact h1 z.1
        · exact p z.2.2
        · exact z.2.1 h2
        · exact z.2.1 h2)]
  rw [if_neg h2, if_neg h2]
  by_cases h3 : W = 18
  · rw [if_pos h3, if_pos h3, la_CK]
    by_cases p : laP s (drN c / 8 % 4)
    · rw [if_pos p, if_pos (show doB s c W A O from Or.inr (Or.inr (Or.inl ⟨h1, h2, h3, p⟩)))]
    · rw [if_neg p, if_neg (show ¬ doB s c W A O from fun z => by
        rcases z with z | z | z | z
        · exact h1 z.1
        · exact h2 z.2.1
        · exact p z.2.2.2
        · exact z.2.2.1 h3)]
  rw [if_neg h3, if_neg h3, la_CK]
  by_cases p : laP s (W - 13)
  · rw [if_pos p, if_pos (show doB s c W A O from Or.inr (Or.inr (Or.inr ⟨h1, h2, h3, p⟩)))]
  · rw [if_neg p, if_neg (show ¬ doB s c W A O from fun z => by
      rcases z with z | z | z | z
      · exact h1 z.1
      · exact h2 z.2.1
      · exact h3 z.2.2.1
      · exact p z.2.2.2)]
section
variable {X : Xs} {d : Nat} {g : Mem} {s c : Int → Int} {N M : Int}
theorem ac_11 (hi : Iv N s) (hd : s 6 ≠ -1) (a : Int) (ha : a = 0 ∨ a = 1 ∨ a = 2 ∨ a = 3) : acS s a 11 = s 11 := by
  obtain ⟨i0, i1, i2, i3, j2, j3, j4, j5, j6, j7, j8, j9, it, im, iw, ia, ih, i6, iu⟩ := id hi
  obtain ⟨u0, u1, u2, u3, -⟩ := iu hd
  have hm : s 10 % 2 = 0 ∨ s 10 % 2 = 1 := by omega
  have hw : 0 ≤ s (6 + s 10 % 2) ∧ s (6 + s 10 % 2) < s 1 ∧ 0 ≤ s (7 - s 10 % 2) ∧ s (7 - s 10 % 2) < s 1 := by
    rcases hm with e | e <;> rw [e] <;> simp only [Int.reduceAdd, Int.reduceSub] <;> omega
  have h3 := (im _ hw.1 hw.2.1).2.2.2.2.2.2
  have hb : 0 < beY s (mn s (s (6 + s 10 % 2)) 3) → 0 ≤ mn s (s (6 + s 10 % 2)) 3 := fun z => by
    have : mn s (s (6 + s 10 % 2)) 3 ≠ -1 := by intro e; rw [e] at z; exact absurd z (by simp [beY])
    omega
  unfold acS
  generalize s (6 + s 10 % 2) = w at hw h3 hb ⊢
  generalize s (7 - s 10 % 2) = o at hw ⊢
  have e1 : ac2 s a (s 10 % 2) w o 11 = s 11 := by
    unfold ac2
    rw [us_ne _ _ (by omega)]
    unfold ac1
    split
    · exact us_ne _ _ (by omega)
    · split
      · exact us_ne _ _ (by omega)
      · split
        · exact us_ne _ _ (by omega)
        · split
          · next z => have := hb z; rw [us_ne _ _ (by omega), us_ne _ _ (by omega)]
          · exact us_ne _ _ (by omega)
  unfold fin
  split
  · unfold enA
    rw [us_ne _ _ (by omega), us_ne _ _ (by omega), us_ne _ _ (by omega)]
    exact e1
  · exact e1
theorem do_11 (hi : Iv N s) {W A O Z : Int} (hw : okS s W A O Z) : doS s c W A O Z 11 = s 11 := by
  obtain ⟨w1, w2, w3, w4⟩ := hw
  have la : ∀ a, (a = 0 ∨ a = 1 ∨ a = 2 ∨ a = 3) → laS s a 11 = s 11 := fun a ha => by
    unfold laS
    split
    · next h => exact ac_11 hi h.1 a ha
    · rfl
  unfold doS
  split
  · split
    · exact (me_all s A O).2.2.2.2.2 11 (by omega)
    · rfl
  · split
    · next e =>
      obtain ⟨a1, a2, a3, a4⟩ := w4 e
      split
      · unfold cuS; exact us_ne _ _ (by omega)
      · rfl
    · split
      · exact la _ (by omega)
      · exact la _ (by omega)
theorem m_326 (r : RN g c) (h0 : 0 ≤ c 1) (h1 : c 1 < 65536) : MI X d 326 [.inr (.inr 143), .inl 4] S0 (ov g) = some (drN c / 8 % 4, S0, ov (wr g 143 33 (drN c))) := by
  have e1 : rd g 143 33 = c 1 := r.1
  have q : am_rem (c 1 * 3137 + 11353) 65536 = drN c := Int.tmod_eq_emod_of_nonneg (by omega)
  have p0 : 0 ≤ drN c ∧ drN c < 65536 := by unfold drN; omega
  have q2 : am_div (drN c) 8 = drN c / 8 := by
    unfold am_div
    rw [Int.tdiv_eq_ediv_of_nonneg p0.1, w32_id (by omega) (by omega)]
  have q3 : am_rem (drN c / 8) 4 = drN c / 8 % 4 := Int.tmod_eq_emod_of_nonneg (by omega)
  rw [e_326]
  simp (disch := omega) only [↓G_mod, ↓P_mod, e1, w32_id, q, rd_wr_eq, q2, q3, ↓if_neg]
theorem RN_drw (r : RN g c) (x : Int) : RN (wr g 143 33 x) (us c 1 x) := by
  unfold RN at *
  simp (disch := omega) only [us_eq, us_ne, rd_wr_eq, rd_wr_ne, rd_wr_ix]
  exact ⟨trivial, r.2⟩
theorem m_327 (r : RM g s) (rn : RN g c) (hi : Iv N s) (hN : N < 800000) (il : IL M c) (hM : M ≤ 300) (a : Int) (ha : a = 0 ∨ a = 1 ∨ a = 2 ∨ a = 3) : Ok (fun v g' => v = b2i (laP s a) ∧ RM g' (laS s a) ∧ RN g' (laK s c a) ∧ FV g g' ∧ (∀ i, 0 ≤ i → rd g' 160 i = rd g 160 i)) (MI X (d + 8) 327 [.inr (.inr 143), .inl a] S0 (ov g)) := by
  obtain ⟨h1, h2, h3, h4, h5, h6, h7, h8, h9, h10⟩ := il
  have no : ¬ laP s a → Ok (fun v g' => v = b2i (laP s a) ∧ RM g' (laS s a) ∧ RN g' (laK s c a) ∧ FV g g' ∧ (∀ i, 0 ≤ i → rd g' 160 i = rd g 160 i)) (some (0, S0, ov g)) := fun z => by
    refine Ok_some ⟨?_, ?_, ?_, FV_rf g, fun _ _ => rfl⟩
    · unfold b2i; rw [if_neg z]
    · unfold laS; rw [if_neg z]; exact r
    · unfold laK; rw [if_neg z]; exact rn
  rw [e_327, K_mod, oC_of (m_268 r), if_b2i]
  by_cases hd : s 6 ≠ -1
  case neg =>
    rw [if_neg hd]
    exact no (fun z => hd z.1)
  rw [if_pos hd, K_mod, oC_of (m_275 (d := d + 2) r hi hd a (by omega) (by omega)), if_b2i]
  by_cases hc : caB (boN s) a
  case neg =>
    rw [if_neg hc]
    exact no (fun z => hc z.2)
  have hp : laP s a := ⟨hd, hc⟩
  obtain ⟨n1, n2, n3, n4, n5, n6, n7⟩ := id rn
  have t := tk_rng hi (by omega) hd a
  rw [if_pos hc]
  have e36 : ∀ (h : Mem) (f : Int → Option Rs), oK (getf S0 (ov h) 11 143 36) none f = f 161 := fun h f => by simp only [G_mod]
  rw [e36, al_161 X g (by omega) (by omega), n6, K_mod]
  obtain ⟨v, g2, e, q1, q2, q3⟩ := m_279 (X := X) (d := d) r hi (by omega) hd a ha
  have k : ∀ i, 0 ≤ i → rd g2 161 i = rd g 161 i := fun i h => q3 _ _ (by omega) h (by omega)
  have l4 : rd g2 161 1 = c 5 := (k 1 (by omega)).trans n4
  have l5 : rd g2 161 2 = c 6 := (k 2 (by omega)).trans n5
  rw [oC_of e, q1, w32_id (x := c 7 + tkB (boN s) a) (by omega) (by omega), as_161 g2 _ (by omega) (by omega), e36, al_161 X _ (by omega) (by omega), rd_wr_ix _ _ (by omega) (by omega) (by omega), l4, w32_id (x := c 5 + 1) (by omega) (by omega), as_161 _ _ (by omega) (by omega), e36, al_161 X _ (by omega) (by omega), rd_wr_ix _ _ (by omega) (by omega) (by omega), rd_wr_ix _ _ (by omega) (by omega) (by omega), l5, K_mod]
  have r3 : RM (wr (wr g2 161 3 (c 7 + tkB (boN s) a)) 161 1 (c 5 + 1)) (acS s a) := RM_wo (RM_wo q2 _ _ (by omega) (by omega)) _ _ (by omega) (by omega)
  rw [oC_of (m_268 r3), if_b2i]
  have fin : ∀ z, z = (if acS s a 6 = -1 then (1 : Int) else 0) → Ok (fun v g' => v = b2i (laP s a) ∧ RM g' (laS s a) ∧ RN g' (laK s c a) ∧ FV g g' ∧ (∀ i, 0 ≤ i → rd g' 160 i = rd g 160 i)) (oK (ast S0 (ov (wr (wr g2 161 3 (c 7 + tkB (boN s) a)) 161 1 (c 5 + 1))) 20 161 2 (w32 (c 6 + z))) none fun h13 => some (1, S0, h13)) := fun z hz => by
    have zr : z = 0 ∨ z = 1 := by rw [hz]; split <;> omega
    rw [w32_id (x := c 6 + z) (by omega) (by omega), as_161 _ _ (by omega) (by omega)]
    refine Ok_some ⟨?_, ?_, ?_, ?_, fun i h => ?_⟩
    · unfold b2i; rw [if_pos hp]
    · unfold laS; rw [if_pos hp]; exact RM_wo r3 _ _ (by omega) (by omega)
    · unfold laK
      rw [if_pos hp, ← hz]
      have n33 : rd g2 143 33 = c 1 := (q3 _ _ (by omega) (by omega) (by omega)).trans n1
      have n34 : rd g2 143 34 = c 3 := (q3 _ _ (by omega) (by omega) (by omega)).trans n2
      have l3 : rd g2 161 0 = c 4 := (k 0 (by omega)).trans n3
      have l7 : rd g2 161 4 = c 8 := (k 4 (by omega)).trans n7
      unfold RN
      simp (disch := omega) only [us_eq, us_ne, rd_wr_eq, rd_wr_ne, rd_wr_ix, n33, n34, l3, l7, and_self]
    · exact FV_tr (FV_FM q3) (FV_tr (FV_tr (FV_wr _ _ _ (Or.inr rfl)) (FV_wr _ _ _ (Or.inr rfl))) (FV_wr _ _ _ (Or.inr rfl)))
    · rw [rd_wr_ne _ _ _ _ (by omega) (by omega) (by omega), rd_wr_ne _ _ _ _ (by omega) (by omega) (by omega), rd_wr_ne _ _ _ _ (by omega) (by omega) (by omega), q3 _ _ (by omega) h (by omega)]
  by_cases h6 : acS s a 6 ≠ -1
  · rw [if_pos h6]
    exact fin 0 (by rw [if_neg h6])
  · rw [if_neg h6]
    exact fin 1 (by rw [if_pos (Decidable.byContradiction h6)])
/-- a STEP without a block, the model -/
theorem m_328 (r : RM g s) (rn : RN g c) (hi : Iv N s) (hN : N < 800000) (il : IL M c) (hM : M ≤ 300) (p : Int) (p0 : 0 ≤ p) (p1 : p < 60) {W A O Z : Int} (h0 : rd g 144 (104 + 6 * p) = W) (h12 : W = 12 → rd g 144 (104 + 6 * p + 1) = A ∧ rd g 144 (104 + 6 * p + 2) = O) (h17 : W = 17 → rd g 144 (104 + 6 * p + 1) = A ∧ rd g 144 (104 + 6 * p + 2) = Z) (ok : okS s W A O Z) : Ok (fun v g' => v = b2i (doB s c W A O) ∧ RM g' (doS s c W A O Z) ∧ RN g' (doK s c W) ∧ FV g g' ∧ (∀ i, 0 ≤ i → rd g' 160 i = rd g 160 i)) (MI X (d + 9) 328 [.inr (.inr 143), .inl (104 + 6 * p)] S0 (ov g)) := by
  obtain ⟨w1, w2, w3, w4⟩ := ok
  have h1 := il.1
  have h2 := il.2.1
  rw [e_328, w32_id (x := 104 + 6 * p + 1) (by omega) (by omega), w32_id (x := 104 + 6 * p + 2) (by omega) (by omega)]
  simp (disch := omega) only [↓G_mod, ↓al_144 _, h0]
  unfold doS doK
  by_cases e12 : W = 12
  · obtain ⟨a1, a2, a3, a4⟩ := w3 e12
    obtain ⟨b1, b2⟩ := h12 e12
    rw [if_pos e12, if_pos e12, if_pos e12, b1, b2, K_mod]
    refine Ok_bind (m_273 r hi A O a1 a2 a3 a4) ?_
    rintro v g1 ⟨q1, q2, q3⟩
    have hb : b2i (A ≠ O ∧ ¬ (mn s A 1 = 0 ∨ mn s O 1 = 0)) = b2i (doB s c W A O) := by
      unfold b2i
      by_cases z : A ≠ O ∧ ¬ (mn s A 1 = 0 ∨ mn s O 1 = 0)
      · rw [if_pos z, if_pos (show doB s c W A O from Or.inl ⟨e12, z⟩)]
      · rw [if_neg z, if_neg (show ¬ doB s c W A O from fun y => by
          rcases y with y | y | y | y
          · exact z y.2
          · exact y.1 e12
          · exact y.1 e12
          · exact y.1 e12)]
    rw [if_pos (show v = 0 ∨ v = 1 by rw [q1]; exact b2i_01 _)]
    exact Ok_some ⟨q1.trans hb, q2, RN_FM rn q3, FV_FM q3, fun i h => q3 _ _ (by omega) h (by omega)⟩
  rw [if_neg e12, if_neg e12, if_neg e12]
  by_cases e17 : W = 17
  · obtain ⟨a1, a2, a3, a4⟩ := w4 e17
    obtain ⟨b1, b2⟩ := h17 e17
    rw [if_pos e17, if_pos e17, if_pos e17, b1, b2, K_mod, oC_of (m_286 r hi A Z a1 a2 a3 a4), if_pos (b2i_01 _)]
    have i3 := hi.2.2.2.1
    have hb : b2i (mn s A 1 < mn s A 2) = b2i (doB s c W A O) := by
      unfold b2i
      by_cases z : mn s A 1 < mn s A 2
      · rw [if_pos z, if_pos (show doB s c W A O from Or.inr (Or.inl ⟨e12, e17, z⟩))]
      · rw [if_neg z, if_neg (show ¬ doB s c W A O from fun y => by
          rcases y with y | y | y | y
          · exact e12 y.1
          · exact z y.2.2
          · exact y.2.1 e17
          · exact y.2.1 e17)]
    have q1 : RM (if mn s A 1 < mn s A 2 then wr g 144 (44 + 10 * A + 1) (am_min (mn s A 2) (mn s A 1 + Z)) else g) (if cuP s A then cuS s A Z else s) := by
      by_cases z : mn s A 1 < mn s A 2
      · rw [if_pos z, if_pos z]; exact RM_us r _ (by omega)
      · rw [if_neg z, if_neg z]; exact r
    have f1 : FM g (if mn s A 1 < mn s A 2 then wr g 144 (44 + 10 * A + 1) (am_min (mn s A 2) (mn s A 1 + Z)) else g) := by
      split
      · exact FM_wr _ _ (by omega) (by omega)
      · exact FM_rf g
    exact Ok_some ⟨hb, q1, RN_FM rn f1, FV_FM f1, fun i h => f1 _ _ (by omega) h (by omega)⟩
  rw [if_neg e17, if_neg e17, if_neg e17]
  by_cases e18 : W = 18
  · rw [if_pos e18, if_pos e18, if_pos e18, K_mod, oC_of (m_326 rn h1 h2), K_mod]
    have p0 : 0 ≤ drN c ∧ drN c < 65536 := by unfold drN; omega
    have il2 : IL M (us c 1 (drN c)) := by
      unfold IL at *
      simp (disch := omega) only [us_eq, us_ne]
      omega
    refine Ok_bind (m_327 (d := d) (RM_wo r 33 (drN c) (by omega) (by omega)) (RN_drw rn (drN c)) hi hN il2 hM (drN c / 8 % 4) (by omega)) ?_
    rintro v g1 ⟨q1, q2, q3, q4, q5⟩
    have hb : b2i (laP s (drN c / 8 % 4)) = b2i (doB s c W A O) := by
      unfold b2i
      by_cases z : laP s (drN c / 8 % 4)
      · rw [if_pos z, if_pos (show doB s c W A O from Or.inr (Or.inr (Or.inl ⟨e12, e17, e18, z⟩)))]
      · rw [if_neg z, if_neg (show ¬ doB s c W A O from fun y => by
          rcases y with y | y | y | y
          · exact e12 y.1
          · exact e17 y.2.1
          · exact z y.2.2.2
          · exact y.2.2.1 e18)]
    rw [if_pos (show v = 0 ∨ v = 1 by rw [q1]; exact b2i_01 _)]
    exact Ok_some ⟨q1.trans hb, q2, q3, FV_tr (FV_143 _ _ (Or.inl rfl)) q4, fun i h => by rw [q5 i h, rd_wr_ne _ _ _ _ (by omega) (by omega) (by omega)]⟩
  rw [if_neg e18, if_neg e18, if_neg e18, if_neg (show ¬ W < 13 by omega), if_neg (show ¬ 16 < W by omega), w32_id (x := W - 13) (by omega) (by omega), K_mod]
  refine Ok_bind (m_327 (d := d) r rn hi hN il hM (W - 13) (by omega)) ?_
  rintro v g1 ⟨q1, q2, q3, q4, q5⟩
  have hb : b2i (laP s (W - 13)) = b2i (doB s c W A O) := by
    unfold b2i
    by_cases z : laP s (W - 13)
    · rw [if_pos z, if_pos (show doB s c W A O from Or.inr (Or.inr (Or.inr ⟨e12, e17, e18, z⟩)))]
    · rw [if_neg z, if_neg (show ¬ doB s c W A O from fun y => by
        rcases y with y | y | y | y
        · exact e12 y.1
        · exact e17 y.2.1
        · exact e18 y.2.2.1
        · exact z y.2.2.2)]
  have fin : Ok (fun v g' => v = b2i (doB s c W A O) ∧ RM g' (laS s (W - 13)) ∧ RN g' (laK s c (W - 13)) ∧ FV g g' ∧ (∀ i, 0 ≤ i → rd g' 160 i = rd g 160 i)) (some (v, S0, ov g1)) := Ok_some ⟨q1.trans hb, q2, q3, q4, q5⟩
  have v01 : v = 0 ∨ v = 1 := by rw [q1]; exact b2i_01 _
  by_cases z : v = 0
  · rw [if_pos z]; rw [z] at fin; exact fin
  · rw [if_neg z]; rw [show v = 1 by omega] at fin; exact fin
/-- a row that begins a block -/
theorem m_328o (p : Int) (p0 : 0 ≤ p) (p1 : p < 60) {W : Int} (h0 : rd g 144 (104 + 6 * p) = W) (h : W = 20 ∨ 1900 ≤ W) : MI X (d + 9) 328 [.inr (.inr 143), .inl (104 + 6 * p)] S0 (ov g) = some (1, S0, ov g) := by
  rw [e_328, w32_id (x := 104 + 6 * p + 1) (by omega) (by omega)]
  simp (disch := omega) only [↓G_mod, ↓al_144 _, h0, ↓oK_some, ↓oC_some, ↓if_pos, ↓if_neg, rd_wr_eq, rd_wr_ne, rd_wr_ix, w32_id]
theorem m_329 (r : RM g s) (hi : Iv N s) (p : Int) (p0 : 0 ≤ p) (p1 : p < 60) {R : Int → Int} (hR : ∀ j, 0 ≤ j → j < 6 → rd g 144 (104 + 6 * p + j) = R j) {T C A Z : Int} (ok : T = 20 ∨ (T = 10 ∧ 0 ≤ A ∧ A < s 1) ∨ (T = 21 ∧ 0 ≤ A ∧ A < s 0) ∨ T = 22) (m : mO R 19 T C A Z) : MI X (d + 3) 329 [.inr (.inr 143), .inl (104 + 6 * p)] S0 (ov g) = some (b2i (tsB s T C A Z = true), S0, ov g) := by
  have i3 := hi.2.2.2.1
  have i1' := hi.2.1
  obtain ⟨m1, m2, m3, m4⟩ := m.2 rfl
  have e0 := hR 0 (by omega) (by omega)
  rw [Int.add_zero] at e0
  rw [e_329, w32_id (x := 104 + 6 * p + 1) (by omega) (by omega), w32_id (x := 104 + 6 * p + 2) (by omega) (by omega), w32_id (x := 104 + 6 * p + 5) (by omega) (by omega)]
  simp (disch := omega) only [↓G_mod, ↓al_144 _, e0]
  have cm : ∀ v C Z : Int, (if C = 60 then (if v < Z then some ((1 : Int), S0, ov g) else some (0, S0, ov g)) else if C = 62 then (if Z < v then some (1, S0, ov g) else some (0, S0, ov g)) else if v = Z then some (1, S0, ov g) else some (0, S0, ov g)) = some (b2i (cmB v C Z = true), S0, ov g) := fun v C Z => by
    unfold b2i cmB
    (repeat' split) <;> simp_all <;> omega
  unfold tsB
  rcases ok with rfl | ⟨rfl, a0, a1⟩ | ⟨rfl, a0, a1⟩ | rfl
  · obtain ⟨k0, k5, k2⟩ := m1 rfl
    have e5 := hR 5 (by omega) (by omega)
    have e2 := hR 2 (by omega) (by omega)
    rw [k0, if_neg (by decide), if_neg (by decide), if_neg (by decide), K_mod, oC_of (m_269 r hi)]
    simp (disch := omega) only [↓G_mod, ↓al_144 _, e5, e2, k5, k2]
    exact cm _ _ _
  · obtain ⟨k0, k1, k5, k2⟩ := m2 rfl
    have e1 := hR 1 (by omega) (by omega)
    have e5 := hR 5 (by omega) (by omega)
    have e2 := hR 2 (by omega) (by omega)
    rw [k0, if_neg (by decide), if_neg (by decide), if_pos (by decide)]
    simp (disch := omega) only [↓G_mod, ↓al_144 _, e1, k1, ↓K_mod, ↓oC_of (m_252 r A 1 a0 _ _ _), e5, e2, k5, k2]
    exact cm _ _ _
  · obtain ⟨k0, k1⟩ := m3 rfl
    have e1 := hR 1 (by omega) (by omega)
    rw [k0, if_neg (by decide), if_pos (by decide)]
    simp (disch := omega) only [↓G_mod, ↓al_144 _, e1, k1, ↓K_mod, ↓oC_of (m_253 r A a0 _)]
    rw [if_pos (b2i_01 _), if_neg (by decide), if_neg (by decide), if_pos trivial]
    unfold b2i
    by_cases z : th s A 2 ≤ th s A 3
    · rw [if_pos z, if_pos (decide_eq_true z)]
    · rw [if_neg z, if_neg (by rw [decide_eq_false z]; decide)]
  · have k0 := m4 rfl
    rw [k0, if_pos (by decide), K_mod, oC_of (m_268 r), if_pos (b2i_01 _), if_neg (by decide), if_neg (by decide), if_neg (by decide)]
    unfold b2i
    by_cases z : s 6 ≠ -1
    · rw [if_pos z, if_pos (decide_eq_true z)]
    · rw [if_neg z, if_neg (by rw [decide_eq_false z]; decide)]
end
