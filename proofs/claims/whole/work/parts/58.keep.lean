/-! WHAT THE MODEL KEEPS while it plays; a bout behind an ACT -/
section
variable {X : Xs} {d : Nat} {s : Int → Int} {N : Int}
theorem m_291_l (t : Int) (h1 : 104 ≤ t) (h2 : t + 104 ≤ 3768) : ∀ (k : Nat) (j : Int) (g : Mem), j + k = 104 → 0 ≤ j → Ok (fun _ g' => (∀ i, j ≤ i → i < 104 → rd g' 144 (t + i) = rd g 144 i) ∧ (∀ c i, 0 ≤ c → 0 ≤ i → (c ≠ 144 ∨ i < t + j ∨ t + 104 ≤ i) → rd g' c i = rd g c i)) (EI X d 291 2 [some (.inr (.inr 143)), some (.inl t), some (.inl j)] [] S0 (ov g)) := by
  intro k
  induction k with
  | zero =>
    intro j g hk h0
    rw [e_291_2]
    simp (disch := omega) only [↓if_neg]
    exact Ok_some ⟨fun i a b => by omega, fun _ _ _ _ _ => rfl⟩
  | succ k ih =>
    intro j g hk h0
    rw [e_291_2]
    simp (disch := omega) only [↓K_mod, ↓G_mod, ↓P_mod, ↓al_144 _, ↓as_144, ↓if_pos, w32_id]
    refine Ok_mono (ih (j + 1) _ (by omega) (by omega)) (fun v g2 q => ⟨fun i a b => ?_, fun c i a b e => ?_⟩)
    · by_cases e : i = j
      · subst e
        rw [q.2 144 (t + i) (by omega) (by omega) (by omega), rd_wr_eq]
      · rw [q.1 i (by omega) b, rd_wr_ix _ _ (by omega) (by omega) (by omega)]
    · rw [q.2 c i a b (by omega)]
      rcases e with e | e
      · rw [rd_wr_ne _ _ _ _ (by omega) a e]
      · rw [rd_wr_ix _ _ (by omega) b (by omega)]
theorem m_291 (g : Mem) (t : Int) (h1 : 104 ≤ t) (h2 : t + 104 ≤ 3768) : Ok (fun _ g' => (∀ i, 0 ≤ i → i < 104 → rd g' 144 (t + i) = rd g 144 i) ∧ (∀ c i, 0 ≤ c → 0 ≤ i → (c ≠ 144 ∨ i < t ∨ t + 104 ≤ i) → rd g' c i = rd g c i)) (MI X d 291 [.inr (.inr 143), .inl t] S0 (ov g)) := by
  rw [e_291]
  exact Ok_mono (m_291_l t h1 h2 104 0 g (by omega) (by omega)) (fun v g2 q => ⟨q.1, fun c i a b e => q.2 c i a b (by omega)⟩)
theorem m_292_l (t : Int) (h1 : 104 ≤ t) (h2 : t + 104 ≤ 3768) : ∀ (k : Nat) (j : Int) (g : Mem), j + k = 104 → 0 ≤ j → Ok (fun _ g' => (∀ i, j ≤ i → i < 104 → rd g' 144 i = rd g 144 (t + i)) ∧ (∀ c i, 0 ≤ c → 0 ≤ i → (c ≠ 144 ∨ i < j ∨ 104 ≤ i) → rd g' c i = rd g c i)) (EI X d 292 2 [some (.inr (.inr 143)), some (.inl t), some (.inl j)] [] S0 (ov g)) := by
  intro k
  induction k with
  | zero =>
    intro j g hk h0
    rw [e_292_2]
    simp (disch := omega) only [↓if_neg]
    exact Ok_some ⟨fun i a b => by omega, fun _ _ _ _ _ => rfl⟩
  | succ k ih =>
    intro j g hk h0
    rw [e_292_2]
    simp (disch := omega) only [↓K_mod, ↓G_mod, ↓P_mod, ↓al_144 _, ↓as_144, ↓if_pos, w32_id]
    refine Ok_mono (ih (j + 1) _ (by omega) (by omega)) (fun v g2 q => ⟨fun i a b => ?_, fun c i a b e => ?_⟩)
    · by_cases e : i = j
      · subst e
        rw [q.2 144 i (by omega) (by omega) (by omega), rd_wr_eq]
      · rw [q.1 i (by omega) b, rd_wr_ix _ _ (by omega) (by omega) (by omega)]
    · rw [q.2 c i a b (by omega)]
      rcases e with e | e
      · rw [rd_wr_ne _ _ _ _ (by omega) a e]
      · rw [rd_wr_ix _ _ (by omega) b (by omega)]
theorem m_292 (g : Mem) (t : Int) (h1 : 104 ≤ t) (h2 : t + 104 ≤ 3768) : Ok (fun _ g' => (∀ i, 0 ≤ i → i < 104 → rd g' 144 i = rd g 144 (t + i)) ∧ FM g g') (MI X d 292 [.inr (.inr 143), .inl t] S0 (ov g)) := by
  rw [e_292]
  exact Ok_mono (m_292_l t h1 h2 104 0 g (by omega) (by omega)) (fun v g2 q => ⟨q.1, fun c i a b e => q.2 c i a b (by omega)⟩)
theorem m_293 (L : Int) (h0 : 0 ≤ L) (h1 : L < 9) (S : Sh) (h : Mem) : MI X d 293 [.inl L] S h = some (2832 + 104 * L, S, h) := by
  rw [e_293]
  simp (disch := omega) only [w32_id]
/-- what settles writes -/
def setl (g : Mem) (up : Prop) [Decidable up] (L its : Int) : Mem :=
  if rd g 154 L = -1 ∨ (if up then rd g 153 L < its else its < rd g 153 L) then wr (wr g 153 L its) 154 L (rd g 152 L) else g
theorem m_294 (g : Mem) (L its w : Int) (hw : w = 0 ∨ w = 1) (h0 : 0 ≤ L) (h1 : L < 9) : MI X d 294 [.inr (.inr 143), .inl L, .inl its, .inl w] S0 (ov g) = some (0, S0, ov (setl g (w = 1) L its)) := by
  rw [e_294]
  unfold setl
  simp (disch := omega) only [↓K_mod, ↓G_mod, ↓P_mod, ↓al_144 _, ↓as_144, ↓al_152 _, ↓al_153 _, ↓al_154 _, ↓as_153, ↓as_154, rd_wr_ne]
  by_cases z : rd g 154 L = -1
  · rw [if_pos z, if_pos (Or.inl z)]
  · rw [if_neg z]
    rcases hw with rfl | rfl
    · simp only [z, false_or, ↓reduceIte, Int.reduceEq]
      split <;> rfl
    · simp only [z, false_or, ↓reduceIte, Int.reduceEq]
      split <;> rfl
theorem acR_of (hi : Iv N s) (hd : s 6 ≠ -1) (a : Int) (ha : a = 0 ∨ a = 1 ∨ a = 2 ∨ a = 3) : acR s (ac2 s a (s 10 % 2) (s (6 + s 10 % 2)) (s (7 - s 10 % 2))) (plB (boN s) a) := by
  have hm : s 10 % 2 = 0 ∨ s 10 % 2 = 1 := by omega
  rcases hm with e | e <;> rw [e]
  · exact ac2_0 hi hd a ha e
  · exact ac2_1 hi hd a ha e
/-- LIFE behind an ACT, and whether the DUEL is over -/
theorem acS_life (hi : Iv N s) (hN : N < 900000) (hd : s 6 ≠ -1) (a : Int) (ha : a = 0 ∨ a = 1 ∨ a = 2 ∨ a = 3) (hc : caB (boN s) a) : mn (acS s a) (s 6) 1 = plB (boN s) a 0 ∧ mn (acS s a) (s 7) 1 = plB (boN s) a 1 ∧
    ((plB (boN s) a 0 = 0 ∨ plB (boN s) a 1 = 0) → acS s a 6 = -1) ∧
    (¬ (plB (boN s) a 0 = 0 ∨ plB (boN s) a 1 = 0) → acS s a = ac2 s a (s 10 % 2) (s (6 + s 10 % 2)) (s (7 - s 10 % 2)) ∧ acS s a 6 = s 6 ∧ acS s a 7 = s 7 ∧ boN (acS s a) = plB (boN s) a) := by
  have R := acR_of hi hd a ha
  have hi' := hi
  obtain ⟨i0, i1, i2, i3, j2, j3, j4, j5, j6, j7, j8, j9, it, im, iw, ia, ih, i6, iu⟩ := hi
  obtain ⟨u0, u1, u2, u3, u4, u5, u6, u7, u8, u9, u10, u11⟩ := iu hd
  have IBs : IB (boN s) := IB_bo hi' (by omega) u0 u1 u2 u3 ⟨u7, u8, u9, u10, u11⟩
  have pr := pl_rng IBs a ha hc
  have p3 := (pl_all (boN s) a ha).2.2.2
  simp only [bo_all] at pr
  obtain ⟨-, -, -, -, -, -, x1, x2⟩ := im (s 6) u0 u1
  obtain ⟨-, -, -, -, -, -, y1, y2⟩ := im (s 7) u2 u3
  have be6 := be_rng hi' x1 x2
  have be7 := be_rng hi' y1 y2
  have hh := ih (s 6) (s 7) u0 u1 u2 u3 u4
  clear it im iw ia ih iu hi'
  unfold acS
  have hm : s 10 % 2 = 0 ∨ s 10 % 2 = 1 := by omega
  have hw : 0 ≤ s (6 + s 10 % 2) ∧ 0 ≤ s (7 - s 10 % 2) ∧ s (7 - s 10 % 2) < 6 := by
    rcases hm with e | e <;> rw [e] <;> simp only [Int.reduceAdd, Int.reduceSub] <;> omega
  have ho : s (7 - s 10 % 2) = if s 10 % 2 = 0 then s 7 else s 6 := by
    rcases hm with e | e <;> rw [e] <;> simp only [Int.reduceEq, ↓reduceIte, Int.sub_zero, Int.reduceSub]
  generalize ac2 s a (s 10 % 2) (s (6 + s 10 % 2)) (s (7 - s 10 % 2)) = y at R ⊢
  generalize s (6 + s 10 % 2) = w at hw ⊢
  generalize s (7 - s 10 % 2) = o at hw ho ⊢
  obtain ⟨g0, g1, g2, g3, g4, g5⟩ := enA_get y (w := w) (o := o) hw.1 hw.2.1 hw.2.2
  obtain ⟨Rk, R8, R9, R10, Rm, Rw, Rt⟩ := R
  have l6 : mn y (s 6) 1 = plB (boN s) a 0 := by rw [(Rm _ u0 u1).2.2.2, if_pos rfl]
  have l7 : mn y (s 7) 1 = plB (boN s) a 1 := by rw [(Rm _ u2 u3).2.2.2, if_neg (by omega), if_pos rfl]
  have ovr : mn y o 1 = 0 ↔ (plB (boN s) a 0 = 0 ∨ plB (boN s) a 1 = 0) := by
    rw [ho]
    rcases hm with e | e
    · have := pr.2.2.2.2.2.2.2.2.2.2.2.2.1 e
      rw [if_pos e, l7]
      omega
    · have := pr.2.2.2.2.2.2.2.2.2.2.2.2.2 e
      rw [if_neg (by omega), l6]
      omega
  unfold fin
  refine ⟨?_, ?_, fun z => ?_, fun z => ?_⟩
  · by_cases z : mn y o 1 = 0
    · rw [if_pos z, g3 _ 1 u0 (by omega) (by omega), l6]
    · rw [if_neg z, l6]
  · by_cases z : mn y o 1 = 0
    · rw [if_pos z, g3 _ 1 u2 (by omega) (by omega), l7]
    · rw [if_neg z, l7]
  · rw [if_pos (ovr.mpr z), g1]
  · have k6 := Rk 6 (by omega) (by omega)
    have k7 := Rk 7 (by omega) (by omega)
    rw [if_neg (fun e => z (ovr.mp e))]
    refine ⟨rfl, k6, k7, ?_⟩
    unfold boN
    rw [k6, k7]
    have m6 := Rm _ u0 u1
    have m7 := Rm _ u2 u3
    have k2 := Rk 2 (by omega) (by omega)
    have k3 := Rk 3 (by omega) (by omega)
    have k4 := Rk 4 (by omega) (by omega)
    have yb : ∀ h, -1 ≤ h → h < s 0 → ∀ v, 0 ≤ v → v ≤ beY s h → (h ≠ -1 → th y h 2 = th s h 2 ∧ th y h 3 = th s h 2 - v) → beY y h = v := by
      intro h h1 h2 v v0 v1 q
      unfold beY at v1 ⊢
      by_cases e : h = -1
      · rw [if_pos e] at v1 ⊢; omega
      · obtain ⟨q1, q2⟩ := q e
        rw [if_neg e, q1, q2]
        split <;> omega
    have d6 : ∀ v z, v = 0 ∨ v = 1 → hdv y (s 6) v z = hdv s (s 6) v z := by
      intro v z hv
      unfold hdv
      rw [m6.2.2.1]
      by_cases e : mn s (s 6) 3 = -1
      · rw [if_pos e, if_pos e]
      · rw [if_neg e, if_neg e]
        have := Rt (mn s (s 6) 3) (by omega) (by omega)
        rcases hv with rfl | rfl
        · exact this.1
        · exact this.2.1
    have d7 : ∀ v z, v = 0 ∨ v = 1 → hdv y (s 7) v z = hdv s (s 7) v z := by
      intro v z hv
      unfold hdv
      rw [m7.2.2.1]
      by_cases e : mn s (s 7) 3 = -1
      · rw [if_pos e, if_pos e]
      · rw [if_neg e, if_neg e]
        have := Rt (mn s (s 7) 3) (by omega) (by omega)
        rcases hv with rfl | rfl
        · exact this.1
        · exact this.2.1
    have b2 : beY y (mn y (s 6) 3) = plB (boN s) a 2 := by
      rw [m6.2.2.1]
      refine yb _ x1 x2 _ (by omega) (by omega) (fun e => ?_)
      obtain ⟨-, -, q2, q3⟩ := Rt (mn s (s 6) 3) (by omega) (by omega)
      rw [if_pos rfl] at q3
      exact ⟨q2, q3⟩
    have b3 : beY y (mn y (s 7) 3) = plB (boN s) a 3 := by
      rw [m7.2.2.1]
      refine yb _ y1 y2 _ (by omega) (by omega) (fun e => ?_)
      obtain ⟨-, -, q2, q3⟩ := Rt (mn s (s 7) 3) (by omega) (by omega)
      rw [if_neg (by omega), if_pos rfl] at q3
      exact ⟨q2, q3⟩
    have lo : ∀ j, j < 0 → plB (boN s) a j = boN s j := by
      intro j hj
      unfold plB
      rw [us_ne _ _ (by omega)]
      unfold plI
      have hm2 : boN s 6 % 2 = 0 ∨ boN s 6 % 2 = 1 := by omega
      rcases ha with rfl | rfl | rfl | rfl <;> simp (disch := omega) only [Int.reduceEq, ↓reduceIte, us_ne]
    funext j
    by_cases n0 : j < 0
    · rw [lo j n0]
      unfold boN boP
      simp (disch := omega) only [if_neg, k4]
    by_cases n7 : 7 ≤ j
    · rw [p3 j n7]
      by_cases n17 : 17 < j
      · unfold boN boP
        simp (disch := omega) only [if_neg, k4]
      · have hj : j = 7 ∨ j = 8 ∨ j = 9 ∨ j = 10 ∨ j = 11 ∨ j = 12 ∨ j = 13 ∨ j = 14 ∨ j = 15 ∨ j = 16 ∨ j = 17 := by omega
        rcases hj with rfl | rfl | rfl | rfl | rfl | rfl | rfl | rfl | rfl | rfl | rfl <;> simp only [bo_all, m6, m7, k2, k3, k4, d6 0 1 (Or.inl rfl), d6 1 0 (Or.inr rfl), d7 0 1 (Or.inl rfl), d7 1 0 (Or.inr rfl)]
    · have hj : j = 0 ∨ j = 1 ∨ j = 2 ∨ j = 3 ∨ j = 4 ∨ j = 5 ∨ j = 6 := by omega
      rcases hj with rfl | rfl | rfl | rfl | rfl | rfl | rfl <;> simp only [bo_all, l6, l7, b2, b3, R8, R9, R10]
end
