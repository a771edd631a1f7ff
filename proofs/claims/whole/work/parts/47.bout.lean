/-! THE BOUT: 0 1 LIFE, 2 3 BLOWS that the THINGS bear yet, 4 5 CELLS, 6 TIME, 7 8 most LIFE, 9 10 STRENGTH, 11 12 REACH, 13 14 WEIGHT, 15 LONG, 16 SUN, 17 GLARE -/
def RB (g : Mem) (B : Int → Int) : Prop :=
  rd g 126 0 = B 0 ∧ rd g 126 1 = B 1 ∧ rd g 132 0 = B 2 ∧ rd g 132 1 = B 3 ∧ rd g 133 0 = B 4 ∧ rd g 133 1 = B 5 ∧ rd g 125 11 = B 6 ∧
  rd g 128 0 = B 7 ∧ rd g 128 1 = B 8 ∧ rd g 129 0 = B 9 ∧ rd g 129 1 = B 10 ∧ rd g 130 0 = B 11 ∧ rd g 130 1 = B 12 ∧ rd g 131 0 = B 13 ∧ rd g 131 1 = B 14 ∧ rd g 125 8 = B 15 ∧ rd g 125 9 = B 16 ∧ rd g 125 10 = B 17
def IB (B : Int → Int) : Prop :=
  0 ≤ B 0 ∧ B 0 ≤ B 7 ∧ B 7 ≤ 60 ∧ 0 ≤ B 1 ∧ B 1 ≤ B 8 ∧ B 8 ≤ 60 ∧ 0 ≤ B 2 ∧ B 2 ≤ 30 ∧ 0 ≤ B 3 ∧ B 3 ≤ 30 ∧ 0 ≤ B 4 ∧ B 4 < B 5 ∧ B 5 ≤ B 15 ∧ B 15 ≤ 12 ∧ 0 ≤ B 6 ∧ B 6 < 1000000 ∧
  0 ≤ B 9 ∧ B 9 ≤ 9 ∧ 0 ≤ B 10 ∧ B 10 ≤ 9 ∧ 1 ≤ B 11 ∧ B 11 ≤ 6 ∧ 1 ≤ B 12 ∧ B 12 ≤ 6 ∧ 0 ≤ B 13 ∧ B 13 ≤ 9 ∧ 0 ≤ B 14 ∧ B 14 ≤ 9 ∧ 0 ≤ B 16 ∧ B 16 ≤ 99 ∧ 0 ≤ B 17 ∧ B 17 ≤ 9
def reB (B : Int → Int) (i : Int) : Int := if 0 < B (2 + i) then B (11 + i) else 1
def blB (B : Int → Int) (i : Int) : Int := if 0 < B (2 + i) then B (9 + i) + B (13 + i) else B (9 + i)
def diB (B : Int → Int) (i : Int) : Int := if i = 1 ∧ B 6 < B 16 then blB B i - B 17 else blB B i
def huB (B : Int → Int) (i : Int) : Int := if diB B i < 0 then 0 else diB B i
abbrev caB (B : Int → Int) (a : Int) : Prop :=
  a = 0 ∨ (a = 1 ∧ 1 < B 5 - B 4) ∨ (a = 2 ∧ ((B 6 % 2 = 0 ∧ 0 < B 4) ∨ (B 6 % 2 ≠ 0 ∧ B 5 < B 15))) ∨ (a = 3 ∧ B 5 - B 4 ≤ reB B (B 6 % 2))
def tkB (B : Int → Int) (a : Int) : Int := if a = 3 then am_min (B (1 - B 6 % 2)) (huB B (B 6 % 2)) else 0
/-- an ACT of side i -/
def plI (B : Int → Int) (i a : Int) : Int → Int :=
  if a = 0 then us B i (am_min (B (7 + i)) (B i + 1))
  else if a = 1 then us B (4 + i) (B (4 + i) + (if i = 0 then 1 else -1))
  else if a = 2 then us B (4 + i) (B (4 + i) - (if i = 0 then 1 else -1))
  else us (us B (1 - i) (B (1 - i) - am_min (B (1 - i)) (huB B i))) (2 + i) (if 0 < B (2 + i) then B (2 + i) - 1 else B (2 + i))
def plB (B : Int → Int) (a : Int) : Int → Int := us (plI B (B 6 % 2) a) 6 (B 6 + 1)
/-- nothing but the bout is other -/
def FB (g g' : Mem) : Prop := ∀ c i, 0 ≤ c → (c < 125 ∨ 133 < c) → rd g' c i = rd g c i
section
variable {X : Xs} {d : Nat} {g : Mem} {B : Int → Int}
theorem c_6 (r : RB g B) (hi : IB B) : MI X d 6 [.inr (.inr 125)] S0 (ov g) = some (B 6 % 2, S0, ov g) := by
  obtain ⟨r0, r1, r2, r3, r4, r5, r6, -⟩ := r
  rw [e_6]
  simp (disch := omega) only [↓K_bou, ↓G_bou, ↓P_bou, ↓al_126 _, ↓as_126, ↓al_127 _, ↓as_127, ↓al_128 _, ↓as_128, ↓al_129 _, ↓as_129, ↓al_130 _, ↓as_130, ↓al_131 _, ↓as_131, ↓al_132 _, ↓as_132, ↓al_133 _, ↓as_133, am_and_1, r6]
theorem c_7 (r : RB g B) : MI X d 7 [.inr (.inr 125)] S0 (ov g) = some (b2i (B 0 = 0 ∨ B 1 = 0), S0, ov g) := by
  obtain ⟨r0, r1, r2, r3, r4, r5, r6, -⟩ := r
  rw [e_7]
  simp (disch := omega) only [↓K_bou, ↓G_bou, ↓P_bou, ↓al_126 _, ↓as_126, ↓al_127 _, ↓as_127, ↓al_128 _, ↓as_128, ↓al_129 _, ↓as_129, ↓al_130 _, ↓as_130, ↓al_131 _, ↓as_131, ↓al_132 _, ↓as_132, ↓al_133 _, ↓as_133, r0, r1]
  unfold b2i
  (repeat' split) <;> first | rfl | (exfalso; omega)
theorem c_8 (r : RB g B) (hi : IB B) : MI X d 8 [.inr (.inr 125)] S0 (ov g) = some (B 5 - B 4, S0, ov g) := by
  obtain ⟨r0, r1, r2, r3, r4, r5, r6, -⟩ := r
  unfold IB at hi
  rw [e_8]
  simp (disch := omega) only [↓K_bou, ↓G_bou, ↓P_bou, ↓al_126 _, ↓as_126, ↓al_127 _, ↓as_127, ↓al_128 _, ↓as_128, ↓al_129 _, ↓as_129, ↓al_130 _, ↓as_130, ↓al_131 _, ↓as_131, ↓al_132 _, ↓as_132, ↓al_133 _, ↓as_133, r4, r5, w32_id]
theorem c_9 (r : RB g B) (i : Int) (h : i = 0 ∨ i = 1) : MI X d 9 [.inr (.inr 125), .inl i] S0 (ov g) = some (reB B i, S0, ov g) := by
  obtain ⟨r0, r1, r2, r3, r4, r5, r6, r7, r8, r9, r10, r11, r12, -⟩ := r
  rw [e_9]
  unfold reB
  rcases h with rfl | rfl <;> (simp (disch := omega) only [↓K_bou, ↓G_bou, ↓P_bou, ↓al_126 _, ↓as_126, ↓al_127 _, ↓as_127, ↓al_128 _, ↓as_128, ↓al_129 _, ↓as_129, ↓al_130 _, ↓as_130, ↓al_131 _, ↓as_131, ↓al_132 _, ↓as_132, ↓al_133 _, ↓as_133, r2, r3, r11, r12, Int.reduceAdd]; split <;> rfl)
theorem c_10 (r : RB g B) (hi : IB B) (i : Int) (h : i = 0 ∨ i = 1) : MI X d 10 [.inr (.inr 125), .inl i] S0 (ov g) = some (huB B i, S0, ov g) := by
  obtain ⟨r0, r1, r2, r3, r4, r5, r6, r7, r8, r9, r10, r11, r12, r13, r14, r15, r16, r17⟩ := r
  unfold IB at hi
  rw [e_10]
  unfold huB diB blB
  rcases h with rfl | rfl
  · simp (disch := omega) only [↓K_bou, ↓G_bou, ↓P_bou, ↓al_126 _, ↓as_126, ↓al_127 _, ↓as_127, ↓al_128 _, ↓as_128, ↓al_129 _, ↓as_129, ↓al_130 _, ↓as_130, ↓al_131 _, ↓as_131, ↓al_132 _, ↓as_132, ↓al_133 _, ↓as_133, ↓oK_some, ↓oC_some, ↓if_pos, ↓if_neg, rd_wr_eq, rd_wr_ne, rd_wr_ix, w32_id, r2, r9, r13, Int.reduceAdd]
    by_cases z : 0 < B 2 <;> simp (disch := omega) [z, if_neg]
  · simp (disch := omega) only [↓K_bou, ↓G_bou, ↓P_bou, ↓al_126 _, ↓as_126, ↓al_127 _, ↓as_127, ↓al_128 _, ↓as_128, ↓al_129 _, ↓as_129, ↓al_130 _, ↓as_130, ↓al_131 _, ↓as_131, ↓al_132 _, ↓as_132, ↓al_133 _, ↓as_133, ↓oK_some, ↓oC_some, ↓if_pos, ↓if_neg, rd_wr_eq, rd_wr_ne, rd_wr_ix, w32_id, r3, r10, r14, r6, r16, r17, Int.reduceAdd, true_and]
    by_cases z : 0 < B 3 <;> by_cases y : B 6 < B 16 <;> simp [z, y] <;> (repeat' split) <;> first | rfl | omega
theorem c_11 (r : RB g B) (hi : IB B) (a : Int) : MI X (d + 1) 11 [.inr (.inr 125), .inl a] S0 (ov g) = some (b2i (caB B a), S0, ov g) := by
  have hr := r
  have hi' := hi
  obtain ⟨r0, r1, r2, r3, r4, r5, r6, r7, r8, r9, r10, r11, r12, r13, r14, r15, r16, r17⟩ := r
  unfold IB at hi
  have hm : B 6 % 2 = 0 ∨ B 6 % 2 = 1 := by omega
  rw [e_11]
  simp (disch := omega) only [↓K_bou, ↓G_bou, ↓P_bou, ↓al_126 _, ↓as_126, ↓al_127 _, ↓as_127, ↓al_128 _, ↓as_128, ↓al_129 _, ↓as_129, ↓al_130 _, ↓as_130, ↓al_131 _, ↓as_131, ↓al_132 _, ↓as_132, ↓al_133 _, ↓as_133, ↓oC_of (c_6 hr hi'), ↓oC_of (c_8 hr hi'), ↓oC_of (c_9 hr _ hm), r4, r5, r15]
  unfold b2i caB
  (repeat' split) <;> first | rfl | (exfalso; omega)
theorem c_14 (r : RB g B) (hi : IB B) (i : Int) (h : i = 0 ∨ i = 1) : Ok (fun _ g' => RB g' (plI B i 3) ∧ rd g' 125 12 = am_min (B (1 - i)) (huB B i) ∧ FB g g') (MI X (d + 1) 14 [.inr (.inr 125), .inl i] S0 (ov g)) := by
  have hr := r
  have hi' := hi
  obtain ⟨r0, r1, r2, r3, r4, r5, r6, r7, r8, r9, r10, r11, r12, r13, r14, r15, r16, r17⟩ := r
  unfold IB at hi
  have hm : ∀ x, 0 ≤ x → x ≤ 60 → 0 ≤ am_min x (huB B i) ∧ am_min x (huB B i) ≤ x := by
    intro x h1 h2
    have : 0 ≤ huB B i := by unfold huB; split <;> omega
    unfold am_min
    split <;> omega
  rw [e_14]
  unfold plI
  rcases h with rfl | rfl
  · have m1 := hm (B 1) (by omega) (by omega)
    simp (disch := omega) only [↓K_bou, ↓G_bou, ↓P_bou, ↓al_126 _, ↓as_126, ↓al_127 _, ↓as_127, ↓al_128 _, ↓as_128, ↓al_129 _, ↓as_129, ↓al_130 _, ↓as_130, ↓al_131 _, ↓as_131, ↓al_132 _, ↓as_132, ↓al_133 _, ↓as_133, ↓oK_some, ↓oC_some, ↓if_pos, ↓if_neg, rd_wr_eq, rd_wr_ne, rd_wr_ix, w32_id, ↓oC_of (c_10 hr hi' _ (Or.inl rfl)), r1, r2, Int.reduceAdd, Int.reduceSub, Int.sub_zero]
    split
    · refine Ok_some ⟨?_, ?_, ?_⟩
      · unfold RB us
        simp (disch := omega) [rd_wr_eq, rd_wr_ne, rd_wr_ix, *]
      · simp (disch := omega) only [rd_wr_eq, rd_wr_ne, rd_wr_ix]
      · intro c j hc hcc
        simp (disch := omega) only [rd_wr_ne]
    · refine Ok_some ⟨?_, ?_, ?_⟩
      · unfold RB us
        simp (disch := omega) [rd_wr_eq, rd_wr_ne, rd_wr_ix, *]
      · simp (disch := omega) only [rd_wr_eq, rd_wr_ne, rd_wr_ix]
      · intro c j hc hcc
        simp (disch := omega) only [rd_wr_ne]
  · have m1 := hm (B 0) (by omega) (by omega)
    simp (disch := omega) only [↓K_bou, ↓G_bou, ↓P_bou, ↓al_126 _, ↓as_126, ↓al_127 _, ↓as_127, ↓al_128 _, ↓as_128, ↓al_129 _, ↓as_129, ↓al_130 _, ↓as_130, ↓al_131 _, ↓as_131, ↓al_132 _, ↓as_132, ↓al_133 _, ↓as_133, ↓oK_some, ↓oC_some, ↓if_pos, ↓if_neg, rd_wr_eq, rd_wr_ne, rd_wr_ix, w32_id, ↓oC_of (c_10 hr hi' _ (Or.inr rfl)), r0, r3, Int.reduceAdd, Int.reduceSub, Int.sub_self]
    split
    · refine Ok_some ⟨?_, ?_, ?_⟩
      · unfold RB us
        simp (disch := omega) [rd_wr_eq, rd_wr_ne, rd_wr_ix, *]
      · simp (disch := omega) only [rd_wr_eq, rd_wr_ne, rd_wr_ix]
      · intro c j hc hcc
        simp (disch := omega) only [rd_wr_ne]
    · refine Ok_some ⟨?_, ?_, ?_⟩
      · unfold RB us
        simp (disch := omega) [rd_wr_eq, rd_wr_ne, rd_wr_ix, *]
      · simp (disch := omega) only [rd_wr_eq, rd_wr_ne, rd_wr_ix]
      · intro c j hc hcc
        simp (disch := omega) only [rd_wr_ne]
end
