/-! LIVING: the model's flat loop goes along with the walk -/
theorem wr_self (g : Mem) (c i : Int) : wr g c i (rd g c i) = g := by
  funext a b
  unfold wr up rd
  split
  · next h => rw [h.1, h.2]
  · rfl
theorem RN_wr (g : Mem) {c : Int → Int} (r : RN g c) (x : Int) : RN (wr g 161 0 x) (us c 4 x) := by
  unfold RN at *
  simp (disch := omega) only [us_eq, us_ne, rd_wr_eq, rd_wr_ne, rd_wr_ix]
  simp only [r, and_self]
theorem RN_st (g : Mem) {c : Int → Int} (r : RN g c) (x : Int) : RN (wr g 143 34 x) (us c 3 x) := by
  unfold RN at *
  simp (disch := omega) only [us_eq, us_ne, rd_wr_eq, rd_wr_ne, rd_wr_ix]
  simp only [r, and_self]
theorem RN_160 (g : Mem) {c : Int → Int} (r : RN g c) (i x : Int) : RN (wr g 160 i x) c := by
  unfold RN at *
  simp (disch := omega) only [rd_wr_ne]
  exact r
section
variable {X : Xs} {d : Nat} {g : Mem} {s c : Int → Int} {N M n0 n1 : Int}
theorem m_330_n {nr k : Int} (h11 : rd g 144 11 = nr) (hn : nr ≤ 60) (k0 : 0 ≤ k) (h : nr ≤ k ∨ rd g 144 (104 + 6 * k) ≠ 21) : MI X d 330 [.inr (.inr 143), .inl k] S0 (ov g) = some (k, S0, ov g) := by
  rw [e_330, e_330_2]
  simp (disch := omega) only [↓G_mod, ↓al_144 _, h11]
  by_cases z : k < nr
  · rw [if_pos z, w32_id (x := 6 * k) (by omega) (by omega), w32_id (x := 104 + 6 * k) (by omega) (by omega)]
    simp (disch := omega) only [↓al_144 _]
    rw [if_neg (by omega)]
  · rw [if_neg z]
theorem m_330_1 {nr k o l : Int} (h11 : rd g 144 11 = nr) (hn : nr ≤ 60) (k0 : 0 ≤ k) (k1 : k < nr) (h : rd g 144 (104 + 6 * k) = 21) (h4 : rd g 144 (104 + 6 * k + 4) = o) (o0 : 0 ≤ o) (o1 : o < 60) (hl : rd g 144 (104 + 6 * o) = 20) (hv : rd g 160 o = l) (l0 : 0 < l) (l1 : l ≤ 99) : MI X d 330 [.inr (.inr 143), .inl k] S0 (ov g) = MI X d 330 [.inr (.inr 143), .inl (o + 1)] S0 (ov (wr g 160 o (l - 1))) := by
  rw [e_330, e_330_2]
  simp (disch := omega) only [↓G_mod, ↓al_144 _, h11]
  rw [if_pos k1, w32_id (x := 6 * k) (by omega) (by omega), w32_id (x := 104 + 6 * k) (by omega) (by omega), w32_id (x := 104 + 6 * k + 4) (by omega) (by omega)]
  simp (disch := omega) only [↓G_mod, ↓al_144 _, h, h4]
  rw [if_pos trivial, w32_id (x := 6 * o) (by omega) (by omega), w32_id (x := 104 + 6 * o) (by omega) (by omega)]
  simp (disch := omega) only [↓G_mod, ↓al_144 _, hl, ↓al_160 _, hv]
  rw [if_pos trivial, if_pos l0]
  rw [if_neg (by decide), w32_id (x := l - 1) (by omega) (by omega), w32_id (x := o + 1) (by omega) (by omega)]
  simp (disch := omega) only [↓as_160]
  rw [if_neg (by decide), e_330]
theorem m_330_0 {nr k o : Int} (h11 : rd g 144 11 = nr) (hn : nr ≤ 60) (k0 : 0 ≤ k) (k1 : k < nr) (h : rd g 144 (104 + 6 * k) = 21) (h4 : rd g 144 (104 + 6 * k + 4) = o) (o0 : 0 ≤ o) (o1 : o < 60) (hl : rd g 144 (104 + 6 * o) ≠ 20 ∨ rd g 160 o = 0) : ∃ x, MI X d 330 [.inr (.inr 143), .inl k] S0 (ov g) = MI X d 330 [.inr (.inr 143), .inl (k + 1)] S0 (ov (wr g 160 o x)) := by
  refine ⟨w32 (rd g 160 o - 0), ?_⟩
  rw [e_330, e_330_2]
  simp (disch := omega) only [↓G_mod, ↓al_144 _, h11]
  rw [if_pos k1, w32_id (x := 6 * k) (by omega) (by omega), w32_id (x := 104 + 6 * k) (by omega) (by omega), w32_id (x := 104 + 6 * k + 4) (by omega) (by omega)]
  simp (disch := omega) only [↓G_mod, ↓al_144 _, h, h4]
  rw [if_pos trivial, w32_id (x := 6 * o) (by omega) (by omega), w32_id (x := 104 + 6 * o) (by omega) (by omega), w32_id (x := k + 1) (by omega) (by omega)]
  simp (disch := omega) only [↓G_mod, ↓al_144 _, ↓al_160 _]
  by_cases z : rd g 144 (104 + 6 * o) = 20
  · rw [if_pos z, if_neg (show ¬ 0 < rd g 160 o by omega), if_pos trivial]
    simp (disch := omega) only [↓as_160]
    rw [if_pos trivial, e_330]
  · rw [if_neg z, if_pos trivial]
    simp (disch := omega) only [↓as_160]
    rw [if_pos trivial, e_330]
/-- the loop's next round, behind the ends of blocks -/
noncomputable def zz (X : Xs) (d : Nat) (k : Int) (g : Mem) : Option Rs := oC (MI X (d + 9) 330 [.inr (.inr 143), .inl k] S0 (ov g)) fun r S m => EI X (d + 10) 331 32 [some (.inr (.inr 143)), none, some (.inl r), none] [] S m
theorem zz_n {nr k : Int} (h11 : rd g 144 11 = nr) (hn : nr ≤ 60) (k0 : 0 ≤ k) (h : nr ≤ k ∨ rd g 144 (104 + 6 * k) ≠ 21) : zz X d k g = EI X (d + 10) 331 32 [some (.inr (.inr 143)), none, some (.inl k), none] [] S0 (ov g) := by
  unfold zz
  rw [oC_of (m_330_n h11 hn k0 h)]
theorem g_at (h : Mem) (f : Int → Option Rs) : oK (getf S0 (ov h) 11 143 0) none f = f 144 := (G_mod h (none : Option Rs) f).1
theorem g_34 (h : Mem) (f : Int → Option Rs) : oK (getf S0 (ov h) 11 143 34) none f = f (rd h 143 34) := by simp only [G_mod]
theorem g_36 (h : Mem) (f : Int → Option Rs) : oK (getf S0 (ov h) 11 143 36) none f = f 161 := by simp only [G_mod]
theorem p_34 (h : Mem) (x : Int) (f : Mem → Option Rs) : oK (putf S0 (ov h) 11 143 34 x) none f = f (ov (wr h 143 34 x)) := by simp only [P_mod]
theorem m_331_300 {nr k : Int} (h11 : rd g 144 11 = nr) (hn : nr ≤ 60) (k0 : 0 ≤ k) (k1 : k < nr) (rn : RN g c) (h : c 3 = 300) : EI X (d + 10) 331 32 [some (.inr (.inr 143)), none, some (.inl k), none] [] S0 (ov g) = some (0, S0, ov (wr g 161 4 1)) := by
  have e34 := rn.2.1
  rw [e_331_32, g_at, al_144 X g (by omega) (by omega), h11, if_pos k1, g_34, e34, if_pos h, g_36, as_161 g _ (by omega) (by omega)]
/-- a row that ends all -/
theorem m_331_22 {nr k : Int} (h11 : rd g 144 11 = nr) (hn : nr ≤ 60) (k0 : 0 ≤ k) (k1 : k < nr) (rn : RN g c) (h0 : 0 ≤ c 3) (h : c 3 < 300) (hw : rd g 144 (104 + 6 * k) = 22) : EI X (d + 10) 331 32 [some (.inr (.inr 143)), none, some (.inl k), none] [] S0 (ov g) = some (0, S0, ov (wr g 143 34 (c 3 + 1))) := by
  have e34 := rn.2.1
  have e1 : rd (wr g 143 34 (c 3 + 1)) 144 (104 + 6 * k) = 22 := by rw [rd_wr_ne _ _ _ _ (by omega) (by omega) (by omega)]; exact hw
  rw [e_331_32, g_at, al_144 X g (by omega) (by omega), h11, if_pos k1, g_34, e34, if_neg (by omega), g_34, e34, w32_id (x := c 3 + 1) (by omega) (by omega), p_34, g_at, w32_id (x := 6 * k) (by omega) (by omega), w32_id (x := 104 + 6 * k) (by omega) (by omega), al_144 X _ (by omega) (by omega), e1, if_pos rfl]
/-- a row without a block -/
theorem m_331_s {nr k : Int} (r : RM g s) (hi : Iv N s) (hN : N < 800000) (h11 : s 11 = nr) (hn : nr ≤ 60) (k0 : 0 ≤ k) (k1 : k < nr) (rn : RN g c) (il : IL (c 3) c) (h0 : 0 ≤ c 3) (h : c 3 < 300) {R : Int → Int} (hR : ∀ j, 0 ≤ j → j < 6 → rd g 144 (104 + 6 * k + j) = R j) {W A O Z : Int} (ok : okS s W A O Z) (m : mS R W A O Z) : ∃ g', EI X (d + 10) 331 32 [some (.inr (.inr 143)), none, some (.inl k), none] [] S0 (ov g) = zz X d (k + 1) g' ∧ RM g' (doS s (us c 3 (c 3 + 1)) W A O Z) ∧ RN g' (doC s (us c 3 (c 3 + 1)) W A O Z) ∧ FV g g' ∧ (∀ i, 0 ≤ i → rd g' 160 i = rd g 160 i) := by
  obtain ⟨w1, w2, w3, w4⟩ := id ok
  obtain ⟨m1, m2, m3⟩ := m
  have e34 := rn.2.1
  have a11 : rd g 144 11 = nr := (r 11 (by omega) (by omega)).trans h11
  have r1 : RM (wr g 143 34 (c 3 + 1)) s := RM_wo r _ _ (by omega) (by omega)
  have n1 : RN (wr g 143 34 (c 3 + 1)) (us c 3 (c 3 + 1)) := RN_st g rn _
  have il1 : IL (c 3) (us c 3 (c 3 + 1)) := by
    unfold IL at *
    simp (disch := omega) only [us_ne]
    exact il
  have f1 : FV g (wr g 143 34 (c 3 + 1)) := FV_143 _ _ (Or.inr rfl)
  have R1 : ∀ j, 0 ≤ j → j < 6 → rd (wr g 143 34 (c 3 + 1)) 144 (104 + 6 * k + j) = R j := fun j a b => by rw [rd_wr_ne _ _ _ _ (by omega) (by omega) (by omega)]; exact hR j a b
  have z60 : ∀ i, 0 ≤ i → rd (wr g 143 34 (c 3 + 1)) 160 i = rd g 160 i := fun i a => rd_wr_ne _ _ _ _ (by omega) (by omega) (by omega)
  rw [e_331_32, g_at, al_144 X g (by omega) (by omega), a11, if_pos k1, g_34, e34, if_neg (by omega), g_34, e34, w32_id (x := 6 * k) (by omega) (by omega), w32_id (x := 104 + 6 * k) (by omega) (by omega), w32_id (x := c 3 + 1) (by omega) (by omega), w32_id (x := k + 1) (by omega) (by omega)]
  have pm : ∀ (x : Int) (f : Mem → Option Rs), oK (putf S0 (ov g) 11 143 34 x) none f = f (ov (wr g 143 34 x)) := fun x f => by simp only [P_mod]
  rw [pm]
  generalize wr g 143 34 (c 3 + 1) = g1 at *
  generalize us c 3 (c 3 + 1) = c1 at *
  have e0 : rd g1 144 (104 + 6 * k) = W := by have := R1 0 (by omega) (by omega); rw [Int.add_zero] at this; exact this.trans m1
  have e0m : ∀ (h : Mem) (f : Int → Option Rs), oK (getf S0 (ov h) 11 143 0) none f = f 144 := fun h f => (G_mod h (none : Option Rs) f).1
  have e36 : ∀ (h : Mem) (f : Int → Option Rs), oK (getf S0 (ov h) 11 143 36) none f = f 161 := fun h f => by simp only [G_mod]
  rw [e0m, al_144 X g1 (by omega) (by omega), e0, if_neg (show ¬ W = 22 by omega), e36, al_161 X g1 (by omega) (by omega), n1.2.2.1, K_mod]
  obtain ⟨v, g2, e, q1, q2, q3, q4, q5⟩ := m_328 (X := X) (d := d) r1 n1 hi hN il1 (by omega) k k0 (by omega) e0 (fun z => ⟨(R1 1 (by omega) (by omega)).trans (m2 z).1, (R1 2 (by omega) (by omega)).trans (m2 z).2⟩) (fun z => ⟨(R1 1 (by omega) (by omega)).trans (m3 z).1, (R1 2 (by omega) (by omega)).trans (m3 z).2⟩) ok
  have k4 : doK s c1 W 4 = c1 4 := by
    have la : ∀ c' a, laK s c' a 4 = c' 4 := fun c' a => by
      unfold laK
      split
      · simp (disch := omega) only [us_ne]
      · rfl
    unfold doK
    split
    · rfl
    · split
      · rfl
      · split
        · rw [la]; exact us_ne _ _ (by omega)
        · rw [la]
  have b4 : 0 ≤ c1 4 ∧ c1 4 ≤ 300 := by obtain ⟨-, -, x, y, -⟩ := il1; omega
  have fin : ∀ x, rd (wr g2 161 0 x) 144 (104 + 6 * k) = W := fun x => by
    rw [rd_wr_ne _ _ _ _ (by omega) (by omega) (by omega), q4 _ _ (by omega) (by omega) (by omega) (by omega) (by omega) (by omega)]
    exact e0
  rw [oC_of e, q1, if_b2i, do_CK]
  by_cases hb : doB s c1 W A O
  · rw [if_pos hb, if_pos hb, w32_id (x := c1 4 + 0) (by omega) (by omega), Int.add_zero, as_161 g2 _ (by omega) (by omega), e0m, al_144 X _ (by omega) (by omega), fin, if_neg (show ¬ W = 20 by omega), e0m, al_144 X _ (by omega) (by omega), fin, if_pos (show W < 1900 by omega), K_mod]
    have n3 : rd g2 161 0 = c1 4 := q3.2.2.1.trans k4
    have eg : wr g2 161 0 (c1 4) = g2 := by rw [← n3]; exact wr_self _ _ _
    rw [eg]
    exact ⟨g2, rfl, q2, q3, FV_tr f1 q4, fun i a => (q5 i a).trans (z60 i a)⟩
  · rw [if_neg hb, if_neg hb, w32_id (x := c1 4 + 1) (by omega) (by omega), as_161 g2 _ (by omega) (by omega), e0m, al_144 X _ (by omega) (by omega), fin, if_neg (show ¬ W = 20 by omega), e0m, al_144 X _ (by omega) (by omega), fin, if_pos (show W < 1900 by omega), K_mod]
    refine ⟨wr g2 161 0 (c1 4 + 1), rfl, RM_wo q2 _ _ (by omega) (by omega), ?_, FV_tr f1 (FV_tr q4 (FV_wr _ _ _ (Or.inr rfl))), fun i a => ?_⟩
    · rw [k4]; exact RN_wr g2 q3 _
    · rw [rd_wr_ne _ _ _ _ (by omega) (by omega) (by omega)]; exact (q5 i a).trans (z60 i a)
/-- a row that begins a block -/
theorem m_331_o {nr k : Int} (r : RM g s) (hi : Iv N s) (h11 : s 11 = nr) (hn : nr ≤ 60) (k0 : 0 ≤ k) (k1 : k < nr) (rn : RN g c) (il : IL (c 3) c) (h0 : 0 ≤ c 3) (h : c 3 < 300) {R : Int → Int} (hR : ∀ j, 0 ≤ j → j < 6 → rd g 144 (104 + 6 * k + j) = R j) {W T C A Z : Int} (ok : okO (s 0) (s 1) W T A Z) (m : mO R W T C A Z) (p4 : 0 ≤ R 4) (p5 : R 4 < 60) : ∃ g', EI X (d + 10) 331 32 [some (.inr (.inr 143)), none, some (.inl k), none] [] S0 (ov g) = zz X d (if W = 23 ∨ tsB s T C A Z = true then k + 1 else R 4 + 1) g' ∧ RM g' s ∧ RN g' (us c 3 (c 3 + 1)) ∧ FV g g' ∧ (∀ i, 0 ≤ i → i ≠ k → rd g' 160 i = rd g 160 i) ∧ (W = 23 → rd g' 160 k = Z - 1) := by
  have e34 := rn.2.1
  have a11 : rd g 144 11 = nr := (r 11 (by omega) (by omega)).trans h11
  have r1 : RM (wr g 143 34 (c 3 + 1)) s := RM_wo r _ _ (by omega) (by omega)
  have n1 : RN (wr g 143 34 (c 3 + 1)) (us c 3 (c 3 + 1)) := RN_st g rn _
  have il1 : IL (c 3) (us c 3 (c 3 + 1)) := by
    unfold IL at *
    simp (disch := omega) only [us_ne]
    exact il
  have f1 : FV g (wr g 143 34 (c 3 + 1)) := FV_143 _ _ (Or.inr rfl)
  have R1 : ∀ j, 0 ≤ j → j < 6 → rd (wr g 143 34 (c 3 + 1)) 144 (104 + 6 * k + j) = R j := fun j a b => by rw [rd_wr_ne _ _ _ _ (by omega) (by omega) (by omega)]; exact hR j a b
  have z60 : ∀ i, 0 ≤ i → rd (wr g 143 34 (c 3 + 1)) 160 i = rd g 160 i := fun i a => rd_wr_ne _ _ _ _ (by omega) (by omega) (by omega)
  have w0 : R 0 = 20 ∨ 1900 ≤ R 0 := by
    rcases ok with ⟨w, -⟩ | ⟨w, t⟩
    · exact Or.inl (m.1 w).1
    · obtain ⟨x1, x2, x3, x4⟩ := m.2 w
      rcases t with t | ⟨t, -⟩ | ⟨t, -⟩ | t
      · rw [(x1 t).1]; omega
      · rw [(x2 t).1]; omega
      · rw [(x3 t).1]; omega
      · rw [x4 t]; omega
  rw [e_331_32, g_at, al_144 X g (by omega) (by omega), a11, if_pos k1, g_34, e34, if_neg (by omega), g_34, e34, w32_id (x := 6 * k) (by omega) (by omega), w32_id (x := 104 + 6 * k) (by omega) (by omega), w32_id (x := c 3 + 1) (by omega) (by omega), w32_id (x := k + 1) (by omega) (by omega), w32_id (x := 104 + 6 * k + 1) (by omega) (by omega), w32_id (x := 104 + 6 * k + 4) (by omega) (by omega)]
  have pm : ∀ (x : Int) (f : Mem → Option Rs), oK (putf S0 (ov g) 11 143 34 x) none f = f (ov (wr g 143 34 x)) := fun x f => by simp only [P_mod]
  rw [pm]
  generalize wr g 143 34 (c 3 + 1) = g1 at *
  generalize us c 3 (c 3 + 1) = c1 at *
  have e0 : rd g1 144 (104 + 6 * k) = R 0 := by have := R1 0 (by omega) (by omega); rw [Int.add_zero] at this; exact this
  have e1 := R1 1 (by omega) (by omega)
  have e4 := R1 4 (by omega) (by omega)
  have e0m : ∀ (h : Mem) (f : Int → Option Rs), oK (getf S0 (ov h) 11 143 0) none f = f 144 := fun h f => (G_mod h (none : Option Rs) f).1
  have e36 : ∀ (h : Mem) (f : Int → Option Rs), oK (getf S0 (ov h) 11 143 36) none f = f 161 := fun h f => by simp only [G_mod]
  have e35 : ∀ (h : Mem) (f : Int → Option Rs), oK (getf S0 (ov h) 11 143 35) none f = f 160 := fun h f => by simp only [G_mod]
  have b4 : 0 ≤ c1 4 ∧ c1 4 ≤ 300 := by obtain ⟨-, -, x, y, -⟩ := il1; omega
  have n3 : rd g1 161 0 = c1 4 := n1.2.2.1
  have eg : wr g1 161 0 (c1 4) = g1 := by rw [← n3]; exact wr_self _ _ _
  rw [e0m, al_144 X g1 (by omega) (by omega), e0, if_neg (show ¬ R 0 = 22 by omega), e36, al_161 X g1 (by omega) (by omega), n3, K_mod, oC_of (m_328o (d := d) k k0 (by omega) e0 w0), if_neg (by decide), w32_id (x := c1 4 + 0) (by omega) (by omega), Int.add_zero, as_161 g1 _ (by omega) (by omega), eg, e0m, al_144 X _ (by omega) (by omega), e0]
  rcases ok with ⟨w, z1, z2⟩ | ⟨w, t⟩
  · obtain ⟨m1, m2⟩ := m.1 w
    rw [if_pos m1, e35, e0m, al_144 X _ (by omega) (by omega), e1, m2, w32_id (x := Z - 1) (by omega) (by omega), as_160 _ _ (by omega) (by omega)]
    have f0 : rd (wr g1 160 k (Z - 1)) 144 (104 + 6 * k) = 20 := by rw [rd_wr_ne _ _ _ _ (by omega) (by omega) (by omega), e0, m1]
    rw [e0m, al_144 X _ (by omega) (by omega), f0, if_pos (by decide), K_mod, if_pos (Or.inl w)]
    exact ⟨wr g1 160 k (Z - 1), rfl, RM_wo r1 _ _ (by omega) (by omega), RN_160 _ n1 _ _, FV_tr f1 (FV_wr _ _ _ (Or.inl rfl)), fun i a b => by rw [rd_wr_ix _ _ (by omega) a b]; exact z60 i a, fun _ => rd_wr_eq _ _ _ _⟩
  · have w19 : 1900 ≤ R 0 := by
      obtain ⟨x1, x2, x3, x4⟩ := m.2 w
      rcases t with t | ⟨t, -⟩ | ⟨t, -⟩ | t
      · rw [(x1 t).1]; omega
      · rw [(x2 t).1]; omega
      · rw [(x3 t).1]; omega
      · rw [x4 t]; omega
    subst w
    rw [if_neg (by omega), e0m, al_144 X _ (by omega) (by omega), e0, if_neg (by omega), K_mod, oC_of (m_329 (d := d + 6) r1 hi k k0 (by omega) R1 t m), if_b2i]
    by_cases hb : tsB s T C A Z = true
    · rw [if_pos hb, K_mod, if_pos (Or.inr hb)]
      exact ⟨g1, rfl, r1, n1, f1, fun i a b => z60 i a, fun z => by omega⟩
    · rw [if_neg hb, e0m, al_144 X _ (by omega) (by omega), e4, w32_id (x := R 4 + 1) (by omega) (by omega), K_mod, if_neg (fun z => by rcases z with z | z; omega; exact hb z)]
      exact ⟨g1, rfl, r1, n1, f1, fun i a b => z60 i a, fun z => by omega⟩
end
