/-! THE BOUT, played -/
theorem RB_time {g : Mem} {B : Int → Int} (r : RB g B) (x : Int) : RB (wr g 125 11 x) (us B 6 x) := by
  obtain ⟨r0, r1, r2, r3, r4, r5, r6, r7, r8, r9, r10, r11, r12, r13, r14, r15, r16, r17⟩ := r
  unfold RB us
  simp (disch := omega) [rd_wr_eq, rd_wr_ne, rd_wr_ix, *]
theorem RB_took {g : Mem} {B : Int → Int} (r : RB g B) (x : Int) : RB (wr g 125 12 x) B := by
  obtain ⟨r0, r1, r2, r3, r4, r5, r6, r7, r8, r9, r10, r11, r12, r13, r14, r15, r16, r17⟩ := r
  unfold RB
  simp (disch := omega) [rd_wr_eq, rd_wr_ne, rd_wr_ix, *]
theorem FB_tr {g g1 g2 : Mem} (h1 : FB g g1) (h2 : FB g1 g2) : FB g g2 := fun c i a b => (h2 c i a b).trans (h1 c i a b)
theorem FB_wr (g : Mem) {c : Int} (i x : Int) (h : 125 ≤ c ∧ c ≤ 133) : FB g (wr g c i x) := fun a j h0 h1 => rd_wr_ne g i j x (by omega) h0 (by omega)
/-- the numbers of a bout that an ACT leaves -/
def sameP (B C : Int → Int) : Prop := ∀ k, 7 ≤ k → k ≤ 17 → C k = B k
def pkB (B : Int → Int) : Int := B 0 + B 1 * 64 + B 2 * 4096 + B 3 * 131072 + B 4 * 4194304 + B 5 * 67108864 + B 6 * 1073741824
section
variable {X : Xs} {d : Nat} {g : Mem} {B : Int → Int}
theorem c_13 (r : RB g B) (hi : IB B) (a : Int) (h0 : 0 ≤ a) (h1 : a ≤ 3) : Ok (fun _ g' => RB g' (plB B a) ∧ rd g' 125 12 = tkB B a ∧ FB g g') (MI X (d + 2) 13 [.inr (.inr 125), .inl a] S0 (ov g)) := by
  have hr := r
  have hi' := hi
  obtain ⟨r0, r1, r2, r3, r4, r5, r6, r7, r8, r9, r10, r11, r12, r13, r14, r15, r16, r17⟩ := r
  unfold IB at hi
  have hm : B 6 % 2 = 0 ∨ B 6 % 2 = 1 := by omega
  have ha : a = 0 ∨ a = 1 ∨ a = 2 ∨ a = 3 := by omega
  rw [e_13]
  simp only [↓K_bou, ↓G_bou, ↓P_bou, ↓al_126 _, ↓as_126, ↓al_127 _, ↓as_127, ↓al_128 _, ↓as_128, ↓al_129 _, ↓as_129, ↓al_130 _, ↓as_130, ↓al_131 _, ↓as_131, ↓al_132 _, ↓as_132, ↓al_133 _, ↓as_133, ↓oC_of (c_6 hr hi')]
  unfold plB tkB
  rcases hm with e | e <;> rw [e] <;> rcases ha with rfl | rfl | rfl | rfl
  case inl.inl => 
    simp (disch := omega) only [↓K_bou, ↓G_bou, ↓P_bou, ↓al_126 _, ↓as_126, ↓al_127 _, ↓as_127, ↓al_128 _, ↓as_128, ↓al_129 _, ↓as_129, ↓al_130 _, ↓as_130, ↓al_131 _, ↓as_131, ↓al_132 _, ↓as_132, ↓al_133 _, ↓as_133, ↓oK_some, ↓oC_some, ↓if_pos, ↓if_neg, rd_wr_eq, rd_wr_ne, rd_wr_ix, w32_id, r0, r7, r6]
    exact Ok_some ⟨by (unfold RB plI us; simp (disch := omega) [rd_wr_eq, rd_wr_ne, rd_wr_ix, *]), by simp (disch := omega) [rd_wr_eq, rd_wr_ne, rd_wr_ix], by (intro c j hc hcc; simp (disch := omega) only [rd_wr_ne])⟩
  case inl.inr.inl =>
    simp (disch := omega) only [↓K_bou, ↓G_bou, ↓P_bou, ↓al_126 _, ↓as_126, ↓al_127 _, ↓as_127, ↓al_128 _, ↓as_128, ↓al_129 _, ↓as_129, ↓al_130 _, ↓as_130, ↓al_131 _, ↓as_131, ↓al_132 _, ↓as_132, ↓al_133 _, ↓as_133, ↓oK_some, ↓oC_some, ↓if_pos, ↓if_neg, rd_wr_eq, rd_wr_ne, rd_wr_ix, w32_id, r4, r6]
    exact Ok_some ⟨by (unfold RB plI us; simp (disch := omega) [rd_wr_eq, rd_wr_ne, rd_wr_ix, *]), by simp (disch := omega) [rd_wr_eq, rd_wr_ne, rd_wr_ix], by (intro c j hc hcc; simp (disch := omega) only [rd_wr_ne])⟩
  case inl.inr.inr.inl =>
    simp (disch := omega) only [↓K_bou, ↓G_bou, ↓P_bou, ↓al_126 _, ↓as_126, ↓al_127 _, ↓as_127, ↓al_128 _, ↓as_128, ↓al_129 _, ↓as_129, ↓al_130 _, ↓as_130, ↓al_131 _, ↓as_131, ↓al_132 _, ↓as_132, ↓al_133 _, ↓as_133, ↓oK_some, ↓oC_some, ↓if_pos, ↓if_neg, rd_wr_eq, rd_wr_ne, rd_wr_ix, w32_id, r4, r6]
    exact Ok_some ⟨by (unfold RB plI us; simp (disch := omega) [rd_wr_eq, rd_wr_ne, rd_wr_ix, *]), by simp (disch := omega) [rd_wr_eq, rd_wr_ne, rd_wr_ix], by (intro c j hc hcc; simp (disch := omega) only [rd_wr_ne])⟩
  case inl.inr.inr.inr =>
    simp (disch := omega) only [↓K_bou, ↓G_bou, ↓P_bou, ↓al_126 _, ↓as_126, ↓al_127 _, ↓as_127, ↓al_128 _, ↓as_128, ↓al_129 _, ↓as_129, ↓al_130 _, ↓as_130, ↓al_131 _, ↓as_131, ↓al_132 _, ↓as_132, ↓al_133 _, ↓as_133, ↓oK_some, ↓oC_some, ↓if_pos, ↓if_neg, rd_wr_eq, rd_wr_ne, rd_wr_ix, w32_id]
    refine Ok_bind (c_14 (RB_took hr 0) hi' 0 (Or.inl rfl)) ?_
    rintro v g2 ⟨q1, q2, q3⟩
    have q6 : rd g2 125 11 = B 6 := q1.2.2.2.2.2.2.1.trans rfl
    simp (disch := omega) only [↓K_bou, ↓G_bou, ↓P_bou, ↓al_126 _, ↓as_126, ↓al_127 _, ↓as_127, ↓al_128 _, ↓as_128, ↓al_129 _, ↓as_129, ↓al_130 _, ↓as_130, ↓al_131 _, ↓as_131, ↓al_132 _, ↓as_132, ↓al_133 _, ↓as_133, ↓oK_some, ↓oC_some, ↓if_pos, ↓if_neg, rd_wr_eq, rd_wr_ne, rd_wr_ix, w32_id, q6]
    exact Ok_some ⟨RB_time q1 _, by (simp (disch := omega) only [rd_wr_ix]; rw [q2]), FB_tr (FB_tr (FB_wr g 12 0 (by omega)) q3) (FB_wr _ _ _ (by omega))⟩
  case inr.inl =>
    simp (disch := omega) only [↓K_bou, ↓G_bou, ↓P_bou, ↓al_126 _, ↓as_126, ↓al_127 _, ↓as_127, ↓al_128 _, ↓as_128, ↓al_129 _, ↓as_129, ↓al_130 _, ↓as_130, ↓al_131 _, ↓as_131, ↓al_132 _, ↓as_132, ↓al_133 _, ↓as_133, ↓oK_some, ↓oC_some, ↓if_pos, ↓if_neg, rd_wr_eq, rd_wr_ne, rd_wr_ix, w32_id, r1, r8, r6]
    exact Ok_some ⟨by (unfold RB plI us; simp (disch := omega) [rd_wr_eq, rd_wr_ne, rd_wr_ix, *]), by simp (disch := omega) [rd_wr_eq, rd_wr_ne, rd_wr_ix], by (intro c j hc hcc; simp (disch := omega) only [rd_wr_ne])⟩
  case inr.inr.inl =>
    simp (disch := omega) only [↓K_bou, ↓G_bou, ↓P_bou, ↓al_126 _, ↓as_126, ↓al_127 _, ↓as_127, ↓al_128 _, ↓as_128, ↓al_129 _, ↓as_129, ↓al_130 _, ↓as_130, ↓al_131 _, ↓as_131, ↓al_132 _, ↓as_132, ↓al_133 _, ↓as_133, ↓oK_some, ↓oC_some, ↓if_pos, ↓if_neg, rd_wr_eq, rd_wr_ne, rd_wr_ix, w32_id, r5, r6]
    exact Ok_some ⟨by (unfold RB plI us; simp (disch := omega) [rd_wr_eq, rd_wr_ne, rd_wr_ix, *]), by simp (disch := omega) [rd_wr_eq, rd_wr_ne, rd_wr_ix], by (intro c j hc hcc; simp (disch := omega) only [rd_wr_ne])⟩
  case inr.inr.inr.inl =>
    simp (disch := omega) only [↓K_bou, ↓G_bou, ↓P_bou, ↓al_126 _, ↓as_126, ↓al_127 _, ↓as_127, ↓al_128 _, ↓as_128, ↓al_129 _, ↓as_129, ↓al_130 _, ↓as_130, ↓al_131 _, ↓as_131, ↓al_132 _, ↓as_132, ↓al_133 _, ↓as_133, ↓oK_some, ↓oC_some, ↓if_pos, ↓if_neg, rd_wr_eq, rd_wr_ne, rd_wr_ix, w32_id, r5, r6]
    exact Ok_some ⟨by (unfold RB plI us; simp (disch := omega) [rd_wr_eq, rd_wr_ne, rd_wr_ix, *]), by simp (disch := omega) [rd_wr_eq, rd_wr_ne, rd_wr_ix], by (intro c j hc hcc; simp (disch := omega) only [rd_wr_ne])⟩
  case inr.inr.inr.inr =>
    simp (disch := omega) only [↓K_bou, ↓G_bou, ↓P_bou, ↓al_126 _, ↓as_126, ↓al_127 _, ↓as_127, ↓al_128 _, ↓as_128, ↓al_129 _, ↓as_129, ↓al_130 _, ↓as_130, ↓al_131 _, ↓as_131, ↓al_132 _, ↓as_132, ↓al_133 _, ↓as_133, ↓oK_some, ↓oC_some, ↓if_pos, ↓if_neg, rd_wr_eq, rd_wr_ne, rd_wr_ix, w32_id]
    refine Ok_bind (c_14 (RB_took hr 0) hi' 1 (Or.inr rfl)) ?_
    rintro v g2 ⟨q1, q2, q3⟩
    have q6 : rd g2 125 11 = B 6 := q1.2.2.2.2.2.2.1.trans rfl
    simp (disch := omega) only [↓K_bou, ↓G_bou, ↓P_bou, ↓al_126 _, ↓as_126, ↓al_127 _, ↓as_127, ↓al_128 _, ↓as_128, ↓al_129 _, ↓as_129, ↓al_130 _, ↓as_130, ↓al_131 _, ↓as_131, ↓al_132 _, ↓as_132, ↓al_133 _, ↓as_133, ↓oK_some, ↓oC_some, ↓if_pos, ↓if_neg, rd_wr_eq, rd_wr_ne, rd_wr_ix, w32_id, q6]
    exact Ok_some ⟨RB_time q1 _, by (simp (disch := omega) only [rd_wr_ix]; rw [q2]), FB_tr (FB_tr (FB_wr g 12 0 (by omega)) q3) (FB_wr _ _ _ (by omega))⟩
theorem c_15 (r : RB g B) (hi : IB B) : MI X d 15 [.inr (.inr 125)] S0 (ov g) = some (pkB B, S0, ov g) := by
  obtain ⟨r0, r1, r2, r3, r4, r5, r6, r7, r8, r9, r10, r11, r12, r13, r14, r15, r16, r17⟩ := r
  unfold IB at hi
  rw [e_15]
  simp (disch := omega) only [↓K_bou, ↓G_bou, ↓P_bou, ↓al_126 _, ↓as_126, ↓al_127 _, ↓as_127, ↓al_128 _, ↓as_128, ↓al_129 _, ↓as_129, ↓al_130 _, ↓as_130, ↓al_131 _, ↓as_131, ↓al_132 _, ↓as_132, ↓al_133 _, ↓as_133, r0, r1, r2, r3, r4, r5, r6]
  rw [am_shl_6 (B 1) (by omega) (by omega), am_shl_12 (B 2) (by omega) (by omega), am_shl_17 (B 3) (by omega) (by omega), am_shl_22 (B 4) (by omega) (by omega), am_shl_26 (B 5) (by omega) (by omega), am_lshl_30 (B 6) (by omega) (by omega)]
  rw [am_or_6 (B 0) (B 1) (by omega) (by omega) (by omega) (by omega)]
  rw [am_or_12 (B 0 + B 1 * 64) (B 2) (by omega) (by omega) (by omega) (by omega)]
  rw [am_or_17 (B 0 + B 1 * 64 + B 2 * 4096) (B 3) (by omega) (by omega) (by omega) (by omega)]
  rw [am_or_26 (B 4 * 4194304) (B 5) (by omega) (by omega) (by omega) (by omega)]
  have u : B 4 * 4194304 + B 5 * 67108864 = (B 4 + B 5 * 16) * 4194304 := by omega
  rw [u, am_or_22 (B 0 + B 1 * 64 + B 2 * 4096 + B 3 * 131072) (B 4 + B 5 * 16) (by omega) (by omega) (by omega) (by omega)]
  rw [am_lor_30 (B 0 + B 1 * 64 + B 2 * 4096 + B 3 * 131072 + (B 4 + B 5 * 16) * 4194304) (B 6) (by omega) (by omega) (by omega) (by omega)]
  have v : B 0 + B 1 * 64 + B 2 * 4096 + B 3 * 131072 + (B 4 + B 5 * 16) * 4194304 + B 6 * 1073741824 = pkB B := by unfold pkB; omega
  rw [v]
theorem c_16 (r : RB g B) {C : Int → Int} (hi : IB C) (hp : sameP C B) : Ok (fun _ g' => RB g' C ∧ FB g g') (MI X d 16 [.inr (.inr 125), .inr (.inl (pkB C))] S0 (ov g)) := by
  obtain ⟨r0, r1, r2, r3, r4, r5, r6, r7, r8, r9, r10, r11, r12, r13, r14, r15, r16, r17⟩ := r
  unfold IB at hi
  have p : pkB C = C 0 + C 1 * 64 + C 2 * 4096 + C 3 * 131072 + C 4 * 4194304 + C 5 * 67108864 + C 6 * 1073741824 := rfl
  generalize pkB C = P at p ⊢
  have a0 : am_and (w32 P) 63 = C 0 := by rw [am_and_63]; unfold w32; rw [Int.bmod_def]; split <;> omega
  have a1 : am_and (w32 (am_lshr P 6)) 63 = C 1 := by rw [am_lshr_6 P (by omega) (by omega), am_and_63]; unfold w32; rw [Int.bmod_def]; split <;> omega
  have a2 : am_and (w32 (am_lshr P 12)) 31 = C 2 := by rw [am_lshr_12 P (by omega) (by omega), am_and_31]; unfold w32; rw [Int.bmod_def]; split <;> omega
  have a3 : am_and (w32 (am_lshr P 17)) 31 = C 3 := by rw [am_lshr_17 P (by omega) (by omega), am_and_31]; unfold w32; rw [Int.bmod_def]; split <;> omega
  have a4 : am_and (w32 (am_lshr P 22)) 15 = C 4 := by rw [am_lshr_22 P (by omega) (by omega), am_and_15]; unfold w32; rw [Int.bmod_def]; split <;> omega
  have a5 : am_and (w32 (am_lshr P 26)) 15 = C 5 := by rw [am_lshr_26 P (by omega) (by omega), am_and_15]; unfold w32; rw [Int.bmod_def]; split <;> omega
  have a6 : w32 (am_lshr P 30) = C 6 := by rw [am_lshr_30 P (by omega) (by omega)]; unfold w32; rw [Int.bmod_def]; split <;> omega
  have p7 := hp 7 (by omega) (by omega)
  have p8 := hp 8 (by omega) (by omega)
  have p9 := hp 9 (by omega) (by omega)
  have p10 := hp 10 (by omega) (by omega)
  have p11 := hp 11 (by omega) (by omega)
  have p12 := hp 12 (by omega) (by omega)
  have p13 := hp 13 (by omega) (by omega)
  have p14 := hp 14 (by omega) (by omega)
  have p15 := hp 15 (by omega) (by omega)
  have p16 := hp 16 (by omega) (by omega)
  have p17 := hp 17 (by omega) (by omega)
  rw [e_16]
  simp (disch := omega) only [↓K_bou, ↓G_bou, ↓P_bou, ↓al_126 _, ↓as_126, ↓al_127 _, ↓as_127, ↓al_128 _, ↓as_128, ↓al_129 _, ↓as_129, ↓al_130 _, ↓as_130, ↓al_131 _, ↓as_131, ↓al_132 _, ↓as_132, ↓al_133 _, ↓as_133, a0, a1, a2, a3, a4, a5, a6]
  refine Ok_some ⟨?_, ?_⟩
  · unfold RB
    simp (disch := omega) only [rd_wr_eq, rd_wr_ne, rd_wr_ix, true_and]
    exact ⟨r7.trans p7, r8.trans p8, r9.trans p9, r10.trans p10, r11.trans p11, r12.trans p12, r13.trans p13, r14.trans p14, r15.trans p15, r16.trans p16, r17.trans p17⟩
  · intro c j hc hcc
    simp (disch := omega) only [rd_wr_ne]
end
