/-! acts, reached of both -/
def axB (B : Int → Int) : Nat → Int → Int → Int
  | 0, _, l => l
  | k + 1, i, l => axB B k (i + 1) (if caB B i then am_or l (am_shl 1 i) else l)
theorem axB_s (B : Int → Int) (k : Nat) (i l : Int) : axB B (k + 1) i l = axB B k (i + 1) (if caB B i then am_or l (am_shl 1 i) else l) := rfl
theorem or_bnd : ∀ l : Fin 16, ∀ i : Fin 4, 0 ≤ am_or (l.val : Int) (am_shl 1 (i.val : Int)) ∧ am_or (l.val : Int) (am_shl 1 (i.val : Int)) < 16 := by decide +kernel
theorem or_nul : ∀ l : Fin 16, am_or (l.val : Int) 0 = (l.val : Int) := by decide +kernel
theorem or_b {l i : Int} (h0 : 0 ≤ l) (h1 : l < 16) (i0 : 0 ≤ i) (i1 : i < 4) : 0 ≤ am_or l (am_shl 1 i) ∧ am_or l (am_shl 1 i) < 16 := by
  have q := or_bnd ⟨l.toNat, by omega⟩ ⟨i.toNat, by omega⟩
  simp only [show (l.toNat : Int) = l by omega, show (i.toNat : Int) = i by omega] at q
  exact q
theorem or_z {l : Int} (h0 : 0 ≤ l) (h1 : l < 16) : am_or l 0 = l := by
  have q := or_nul ⟨l.toNat, by omega⟩
  simp only [show (l.toNat : Int) = l by omega] at q
  exact q
def qActs (s : Int → Int) : Int × Int := if s 6 = -1 then (-1, 6) else (axB (boN s) 4 0 0, 0)
section
variable {X : Xs} {d : Nat} {g : Mem} {s : Int → Int} {N : Int}
theorem c_155_l {B : Int → Int} (hB : IB B) : ∀ (k : Nat) (a l : Int) (g1 : Mem), a + k = 4 → 0 ≤ a → RB g1 B → FB g g1 → AnC g (axB B k a l, 0) (EI X (d + 2) 155 32 [some (.inr (.inr 1)), some (.inl l), some (.inl a)] [] S0 (ov g1)) := by
  intro k
  induction k with
  | zero =>
    intro a l g1 hk h0 r f
    rw [e_155_32, if_neg (by omega), K_top]
    exact AnC_tell (FC_FB f) _
  | succ k ih =>
    intro a l g1 hk h0 r f
    rw [e_155_32, if_pos (by omega)]
    simp only [↓K_top, ↓G_top, ↓P_top, ↓K_bou, ↓oC_of (c_11 r hB _), ↓if_b2i]
    rw [w32_id (by omega) (by omega), axB_s]
    by_cases h : caB B a
    · rw [if_pos h, if_pos h]
      exact ih _ _ g1 (by omega) (by omega) r f
    · rw [if_neg h, if_neg h]
      exact ih _ _ g1 (by omega) (by omega) r f
theorem c_155 (r : RD g 19 s) (hi : Iv N s) (hN : N < 800000) : AnC g (qActs s) (MI X (d + 3) 155 [.inr (.inr 1)] S0 (ov g)) := by
  rw [e_155]
  simp only [↓K_top, ↓G_top, ↓P_top, ↓K_daw isD19, ↓oC_of (c_40 isD19 r), ↓if_b2i, ↓K_bou]
  unfold qActs
  by_cases hd : s 6 = -1
  · rw [if_pos hd, if_neg (fun z => z hd)]
    exact AnC_no (FC_rf g) 6
  · rw [if_pos hd, if_neg hd]
    refine Ok_bind (c_2 isD19 r hi hd) ?_
    rintro v g2 ⟨q1, q2⟩
    exact c_155_l (d := d + 1) (IB_N hi (by omega) hd) 4 0 0 g2 (by omega) (by omega) q1 q2
theorem m_282_l (hi : Iv N s) (hd : s 6 ≠ -1) (r : RM g s) : ∀ (k : Nat) (a l : Int), a + k = 4 → 0 ≤ a → 0 ≤ l → l < 16 → AnM g (axB (boN s) k a l, 0) (EI X (d + 6) 282 18 [some (.inr (.inr 143)), some (.inl l), some (.inl a)] [] S0 (ov g)) := by
  intro k
  induction k with
  | zero =>
    intro a l hk h0 l0 l1
    rw [e_282_18, if_neg (by omega), K_mod]
    exact AnM_tell (FN_rf g) _
  | succ k ih =>
    intro a l hk h0 l0 l1
    rw [e_282_18, if_pos (by omega)]
    simp only [↓K_mod, ↓oC_of (m_275 r hi hd a h0 (by omega)), ↓if_b2i]
    rw [w32_id (by omega) (by omega), axB_s, or_z l0 l1]
    by_cases h : caB (boN s) a
    · rw [if_pos h, if_pos h]
      have q := or_b l0 l1 h0 (by omega)
      exact ih _ _ (by omega) (by omega) q.1 q.2
    · rw [if_neg h, if_neg h]
      exact ih _ _ (by omega) (by omega) l0 l1
theorem m_282 (r : RM g s) (hi : Iv N s) : AnM g (qActs s) (MI X (d + 6) 282 [.inr (.inr 143)] S0 (ov g)) := by
  rw [e_282]
  simp only [↓K_mod, ↓oC_of (m_268 r), ↓if_b2i]
  unfold qActs
  by_cases hd : s 6 = -1
  · rw [if_pos hd, if_neg (fun z => z hd)]
    exact AnM_no (FN_rf g) 6
  · rw [if_pos hd, if_neg hd]
    exact m_282_l (d := d) hi hd r 4 0 0 (by omega) (by omega) (by omega) (by omega)
theorem c_160 (r : RD g 19 s) (hi : Iv N s) (hN : N < 800000) : AnC g (qReached s) (MI X (d + 3) 160 [.inr (.inr 1)] S0 (ov g)) := by
  rw [e_160]
  simp only [↓K_top, ↓G_top, ↓P_top, ↓K_daw isD19, ↓oC_of (c_40 isD19 r), ↓if_b2i, ↓K_bou]
  unfold qReached
  by_cases hd : s 6 = -1
  · rw [if_pos hd, if_neg (fun z => z hd)]
    exact AnC_no (FC_rf g) 6
  · rw [if_pos hd, if_neg hd]
    refine Ok_bind (c_2 isD19 r hi hd) ?_
    rintro v g2 ⟨q1, q2⟩
    have IBs := IB_N hi (by omega) hd
    have hm : s 10 % 2 = 0 ∨ s 10 % 2 = 1 := by omega
    have e5 : boN s 5 = s 9 := rfl
    have e4 : boN s 4 = s 8 := rfl
    have e6 : boN s 6 = s 10 := rfl
    have hr : 1 ≤ reB (boN s) (s 10 % 2) ∧ reB (boN s) (s 10 % 2) ≤ 6 := by
      unfold IB at IBs
      unfold reB
      rcases hm with e | e <;> rw [e] <;> simp only [Int.reduceAdd, Int.add_zero] <;> split <;> omega
    have hu : 0 ≤ s 8 ∧ s 8 < s 9 ∧ s 9 ≤ 12 := by
      unfold IB at IBs; omega
    simp only [↓K_top, ↓G_top, ↓P_top, ↓K_bou, ↓oC_of (c_8 q1 IBs), ↓oC_of (c_6 q1 IBs), e6, ↓oC_of (c_9 q1 _ hm), e5, e4]
    rw [w32_id (x := s 9 - s 8 - reB (boN s) (s 10 % 2)) (by omega) (by omega), am_and_1]
    by_cases h : 0 < s 9 - s 8 - reB (boN s) (s 10 % 2)
    · rw [if_pos h, w32_id (by omega) (by omega)]
      simp only [if_neg (show ¬ s 9 - s 8 - reB (boN s) (s 10 % 2) ≤ 0 by omega)]
      exact AnC_tell (FC_FB q2) _
    · rw [if_neg h]
      simp only [if_pos (show s 9 - s 8 - reB (boN s) (s 10 % 2) ≤ 0 by omega)]
      exact AnC_tell (FC_FB q2) _
theorem m_299_l (r : RM g s) : ∀ (k : Nat) (l a : Int), a ≤ 2 * k → -100 ≤ a → 0 ≤ l → l + a ≤ 1000 → l ≤ 2000 → AnM g (l + (if a ≤ 0 then 0 else a + a % 2), 0) (EI X (d + 1) 299 30 [some (.inr (.inr 143)), some (.inl l), some (.inl a)] [] S0 (ov g)) := by
  intro k
  induction k with
  | zero =>
    intro l a hk h0 l0 l1 l2
    rw [e_299_30, if_neg (show ¬ 0 < a by omega), if_pos (show a ≤ 0 by omega), K_mod, Int.add_zero]
    exact AnM_tell (FN_rf g) _
  | succ k ih =>
    intro l a hk h0 l0 l1 l2
    by_cases h : 0 < a
    · have q := ih (l + 2) (a + -2) (by omega) (by omega) (by omega) (by omega) (by omega)
      have e : (l + 2 + (if a + -2 ≤ 0 then 0 else a + -2 + (a + -2) % 2)) = l + (if a ≤ 0 then 0 else a + a % 2) := by
        rw [if_neg (show ¬ a ≤ 0 by omega)]
        split <;> omega
      rw [e] at q
      rw [e_299_30, if_pos h, w32_id (by omega) (by omega), w32_id (by omega) (by omega)]
      exact q
    · rw [e_299_30, if_neg h, if_pos (show a ≤ 0 by omega), K_mod, Int.add_zero]
      exact AnM_tell (FN_rf g) _
theorem m_299 (r : RM g s) (hi : Iv N s) (hN : N < 800000) : AnM g (qReached s) (MI X (d + 5) 299 [.inr (.inr 143)] S0 (ov g)) := by
  rw [e_299]
  simp only [↓K_mod, ↓oC_of (m_268 r), ↓if_b2i]
  unfold qReached
  by_cases hd : s 6 = -1
  · rw [if_pos hd, if_neg (fun z => z hd)]
    exact AnM_no (FN_rf g) 6
  · rw [if_pos hd, if_neg hd]
    have IBs := IB_N hi (by omega) hd
    have i10 := iu10 hi hd
    have hm : s 10 % 2 = 0 ∨ s 10 % 2 = 1 := by omega
    have e1 := re_bo hi hd _ hm
    have ne : neN s = s 9 - s 8 := by unfold neN; rw [if_neg hd]
    have e5 : boN s 5 = s 9 := rfl
    have e4 : boN s 4 = s 8 := rfl
    have hr : 1 ≤ reB (boN s) (s 10 % 2) ∧ reB (boN s) (s 10 % 2) ≤ 6 := by
      unfold IB at IBs
      unfold reB
      rcases hm with e | e <;> rw [e] <;> simp only [Int.reduceAdd, Int.add_zero] <;> split <;> omega
    have hu : 0 ≤ s 8 ∧ s 8 < s 9 ∧ s 9 ≤ 12 := by
      unfold IB at IBs; omega
    have w1 : 0 ≤ s (6 + s 10 % 2) ∧ s (6 + s 10 % 2) < s 1 := by
      obtain ⟨i0, i1, i2, i3, j2, j3, j4, j5, j6, j7, j8, j9, it, im, iw, ia, ih, i6, iu⟩ := id hi
      obtain ⟨u0, u1, u2, u3, -⟩ := iu hd
      rcases hm with e | e <;> rw [e] <;> simp only [Int.reduceAdd, Int.add_zero] <;> omega
    simp only [↓K_mod, ↓oC_of (m_269 r hi), ↓oC_of (m_271 r i10.1), ↓oC_of (m_255 r hi _ w1.1 w1.2), ne]
    rw [← e1, w32_id (by omega) (by omega)]
    have q := m_299_l (X := X) (d := d + 4) r 10 0 (s 9 - s 8 - reB (boN s) (s 10 % 2)) (by omega) (by omega) (by omega) (by omega) (by omega)
    rw [Int.zero_add] at q
    exact q
end
