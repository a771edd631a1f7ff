/-! THE CLASS' DAWN, asked -/
section
variable {X : Xs} {d : Nat} {g : Mem} {s : Int → Int} {b N : Int}
theorem c_22 (hb : isD b) (r : RD g b s) (t : Int) : MI X d 22 [.inr (.inr b), .inl t] S0 (ov g) = some (b2i (0 ≤ t ∧ t < s 0), S0, ov g) := by
  obtain ⟨r0, r1, r2, rt, rm, rw', r6, r7⟩ := r
  rw [e_22]
  unfold b2i
  by_cases h1 : t < 0
  · rw [if_pos h1, if_neg (by omega)]
  · rw [if_neg h1]
    simp only [↓K_daw hb, ↓G_daw hb, ↓al_D1 _ hb, ↓al_D2 _ hb, ↓al_D3 _ hb, ↓al_D4 _ hb, ↓al_D5 _ hb, ↓al_D6 _ hb, ↓al_D7 _ hb, ↓al_D8 _ hb, ↓al_D9 _ hb, ↓al_D10 _ hb, r0]
    by_cases h2 : t < s 0
    · rw [if_pos h2, if_pos (by omega)]
    · rw [if_neg h2, if_neg (by omega)]
theorem c_23 (hb : isD b) (r : RD g b s) (t : Int) : MI X d 23 [.inr (.inr b), .inl t] S0 (ov g) = some (b2i (0 ≤ t ∧ t < s 1), S0, ov g) := by
  obtain ⟨r0, r1, r2, rt, rm, rw', r6, r7⟩ := r
  rw [e_23]
  unfold b2i
  by_cases h1 : t < 0
  · rw [if_pos h1, if_neg (by omega)]
  · rw [if_neg h1]
    simp only [↓K_daw hb, ↓G_daw hb, ↓al_D1 _ hb, ↓al_D2 _ hb, ↓al_D3 _ hb, ↓al_D4 _ hb, ↓al_D5 _ hb, ↓al_D6 _ hb, ↓al_D7 _ hb, ↓al_D8 _ hb, ↓al_D9 _ hb, ↓al_D10 _ hb, r1]
    by_cases h2 : t < s 1
    · rw [if_pos h2, if_pos (by omega)]
    · rw [if_neg h2, if_neg (by omega)]
theorem c_24 (hb : isD b) (r : RD g b s) (m o : Int) : MI X (d + 1) 24 [.inr (.inr b), .inl m, .inl o] S0 (ov g) = some (b2i (0 ≤ m ∧ m < s 1 ∧ 0 ≤ o ∧ o < s 1 ∧ m ≠ o), S0, ov g) := by
  rw [e_24]
  simp only [↓K_daw hb, ↓G_daw hb, ↓al_D1 _ hb, ↓al_D2 _ hb, ↓al_D3 _ hb, ↓al_D4 _ hb, ↓al_D5 _ hb, ↓al_D6 _ hb, ↓al_D7 _ hb, ↓al_D8 _ hb, ↓al_D9 _ hb, ↓al_D10 _ hb, ↓oC_of (c_23 hb r _), ↓if_b2i]
  unfold b2i
  (repeat' split) <;> first | rfl | (exfalso; omega) | (rw [if_neg (by omega)]) | (rw [if_pos (by omega)])
theorem c_27_l (hb : isD b) (r : RD g b s) (hi : Iv N s) (t : Int) : ∀ (k : Nat) (m : Int), m + k = s 1 → 0 ≤ m → EI X d 27 2 [some (.inr (.inr b)), some (.inl t), some (.inl m)] [] S0 (ov g) = some (ff (fun m => decide (mn s m 3 = t)) k m, S0, ov g) := by
  obtain ⟨r0, r1, r2, rt, rm, rw', r6, r7⟩ := r
  obtain ⟨i0, i1, i2, i3, -⟩ := hi
  intro k
  induction k with
  | zero =>
    intro m hm h0
    rw [e_27_2]
    simp (disch := omega) only [↓K_daw hb, ↓G_daw hb, ↓al_D1 _ hb, ↓al_D2 _ hb, ↓al_D3 _ hb, ↓al_D4 _ hb, ↓al_D5 _ hb, ↓al_D6 _ hb, ↓al_D7 _ hb, ↓al_D8 _ hb, ↓al_D9 _ hb, ↓al_D10 _ hb, ↓oK_some, ↓oC_some, ↓if_pos, ↓if_neg, rd_wr_eq, rd_wr_ne, rd_wr_ix, w32_id, ff]
  | succ k ih =>
    intro m hm h0
    rw [e_27_2]
    simp (disch := omega) only [↓K_daw hb, ↓G_daw hb, ↓al_D1 _ hb, ↓al_D2 _ hb, ↓al_D3 _ hb, ↓al_D4 _ hb, ↓al_D5 _ hb, ↓al_D6 _ hb, ↓al_D7 _ hb, ↓al_D8 _ hb, ↓al_D9 _ hb, ↓al_D10 _ hb, ↓oK_some, ↓oC_some, ↓if_pos, ↓if_neg, rd_wr_eq, rd_wr_ne, rd_wr_ix, w32_id, rm, ih, ff]
    by_cases e : mn s m 3 = t <;> simp [e]
theorem c_27 (hb : isD b) (r : RD g b s) (hi : Iv N s) (t : Int) : MI X d 27 [.inr (.inr b), .inl t] S0 (ov g) = some (hoN s t, S0, ov g) := by
  have i2 := hi.2.2.1
  rw [e_27, c_27_l hb r hi t (s 1).toNat 0 (by omega) (by omega)]
  rfl
theorem c_28 (hb : isD b) (r : RD g b s) (hi : Iv N s) (t : Int) (h0 : 0 ≤ t) (h1 : t < s 0) : MI X d 28 [.inr (.inr b), .inl t] S0 (ov g) = some (b2i (th s t 2 ≤ th s t 3), S0, ov g) := by
  obtain ⟨r0, r1, r2, rt, rm, rw', r6, r7⟩ := r
  obtain ⟨i0, i1, i2, i3, -⟩ := hi
  rw [e_28]
  simp (disch := omega) only [↓K_daw hb, ↓G_daw hb, ↓al_D1 _ hb, ↓al_D2 _ hb, ↓al_D3 _ hb, ↓al_D4 _ hb, ↓al_D5 _ hb, ↓al_D6 _ hb, ↓al_D7 _ hb, ↓al_D8 _ hb, ↓al_D9 _ hb, ↓al_D10 _ hb, ↓oK_some, ↓oC_some, ↓if_pos, ↓if_neg, rd_wr_eq, rd_wr_ne, rd_wr_ix, w32_id, rt]
  unfold b2i
  (repeat' split) <;> first | rfl | (exfalso; omega)
theorem c_29 (hb : isD b) (r : RD g b s) (hi : Iv N s) (t : Int) (h0 : -1 ≤ t) (h1 : t < s 0) : MI X d 29 [.inr (.inr b), .inl t] S0 (ov g) = some (beY s t, S0, ov g) := by
  obtain ⟨r0, r1, r2, rt, rm, rw', r6, r7⟩ := r
  obtain ⟨i0, i1, i2, i3, j2, j3, j4, j5, j6, j7, j8, j9, it, -⟩ := hi
  rw [e_29]
  unfold beY
  by_cases ht : t = -1
  · rw [if_pos ht, if_pos ht]
  · have := it t (by omega) h1
    simp (disch := omega) only [↓K_daw hb, ↓G_daw hb, ↓al_D1 _ hb, ↓al_D2 _ hb, ↓al_D3 _ hb, ↓al_D4 _ hb, ↓al_D5 _ hb, ↓al_D6 _ hb, ↓al_D7 _ hb, ↓al_D8 _ hb, ↓al_D9 _ hb, ↓al_D10 _ hb, ↓oK_some, ↓oC_some, ↓if_pos, ↓if_neg, rd_wr_eq, rd_wr_ne, rd_wr_ix, w32_id, rt]
    (repeat' split) <;> rfl
theorem c_30 (hb : isD b) (r : RD g b s) (hi : Iv N s) (m : Int) (h0 : 0 ≤ m) (h1 : m < s 1) : MI X (d + 1) 30 [.inr (.inr b), .inl m] S0 (ov g) = some (reN s m, S0, ov g) := by
  have hr := r
  have hi' := hi
  obtain ⟨r0, r1, r2, rt, rm, rw', r6, r7⟩ := r
  obtain ⟨i0, i1, i2, i3, j2, j3, j4, j5, j6, j7, j8, j9, it, im, -⟩ := hi
  have m1 := im m h0 h1
  rw [e_30]
  simp (disch := omega) only [↓K_daw hb, ↓G_daw hb, ↓al_D1 _ hb, ↓al_D2 _ hb, ↓al_D3 _ hb, ↓al_D4 _ hb, ↓al_D5 _ hb, ↓al_D6 _ hb, ↓al_D7 _ hb, ↓al_D8 _ hb, ↓al_D9 _ hb, ↓al_D10 _ hb, ↓oK_some, ↓oC_some, ↓if_pos, ↓if_neg, rd_wr_eq, rd_wr_ne, rd_wr_ix, w32_id, rm, ↓oC_of (c_29 hb hr hi' _ _ _)]
  unfold reN
  split
  · next z =>
    have : mn s m 3 ≠ -1 := by intro e; rw [e] at z; exact absurd z (by simp [beY])
    simp (disch := omega) only [↓K_daw hb, ↓G_daw hb, ↓al_D1 _ hb, ↓al_D2 _ hb, ↓al_D3 _ hb, ↓al_D4 _ hb, ↓al_D5 _ hb, ↓al_D6 _ hb, ↓al_D7 _ hb, ↓al_D8 _ hb, ↓al_D9 _ hb, ↓al_D10 _ hb, ↓oK_some, ↓oC_some, ↓if_pos, ↓if_neg, rd_wr_eq, rd_wr_ne, rd_wr_ix, w32_id, rt]
  · rfl
theorem c_31 (hb : isD b) (r : RD g b s) (hi : Iv N s) (m : Int) (h0 : 0 ≤ m) (h1 : m < s 1) : MI X (d + 1) 31 [.inr (.inr b), .inl m] S0 (ov g) = some (blN s m, S0, ov g) := by
  have hr := r
  have hi' := hi
  obtain ⟨r0, r1, r2, rt, rm, rw', r6, r7⟩ := r
  obtain ⟨i0, i1, i2, i3, j2, j3, j4, j5, j6, j7, j8, j9, it, im, -⟩ := hi
  have m1 := im m h0 h1
  rw [e_31]
  simp (disch := omega) only [↓K_daw hb, ↓G_daw hb, ↓al_D1 _ hb, ↓al_D2 _ hb, ↓al_D3 _ hb, ↓al_D4 _ hb, ↓al_D5 _ hb, ↓al_D6 _ hb, ↓al_D7 _ hb, ↓al_D8 _ hb, ↓al_D9 _ hb, ↓al_D10 _ hb, ↓oK_some, ↓oC_some, ↓if_pos, ↓if_neg, rd_wr_eq, rd_wr_ne, rd_wr_ix, w32_id, rm, ↓oC_of (c_29 hb hr hi' _ _ _)]
  unfold blN
  split
  · next z =>
    have : mn s m 3 ≠ -1 := by intro e; rw [e] at z; exact absurd z (by simp [beY])
    have m2 := it (mn s m 3) (by omega) (by omega)
    simp (disch := omega) only [↓K_daw hb, ↓G_daw hb, ↓al_D1 _ hb, ↓al_D2 _ hb, ↓al_D3 _ hb, ↓al_D4 _ hb, ↓al_D5 _ hb, ↓al_D6 _ hb, ↓al_D7 _ hb, ↓al_D8 _ hb, ↓al_D9 _ hb, ↓al_D10 _ hb, ↓oK_some, ↓oC_some, ↓if_pos, ↓if_neg, rd_wr_eq, rd_wr_ne, rd_wr_ix, w32_id, rt, rm]
  · simp (disch := omega) only [↓K_daw hb, ↓G_daw hb, ↓al_D1 _ hb, ↓al_D2 _ hb, ↓al_D3 _ hb, ↓al_D4 _ hb, ↓al_D5 _ hb, ↓al_D6 _ hb, ↓al_D7 _ hb, ↓al_D8 _ hb, ↓al_D9 _ hb, ↓al_D10 _ hb, ↓oK_some, ↓oC_some, ↓if_pos, ↓if_neg, rd_wr_eq, rd_wr_ne, rd_wr_ix, w32_id, rt, rm]
end
