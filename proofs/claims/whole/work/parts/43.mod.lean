/-! THE MODEL, asked -/
section
variable {X : Xs} {d : Nat} {g : Mem} {s : Int → Int} {N : Int}
theorem m_231 (t : Int) (h1 : 0 ≤ t) (h2 : t < 100) (h : Mem) (S : Sh) : MI X d 231 [.inl t] S h = some (12 + 4 * t, S, h) := by
  rw [e_231]
  simp (disch := omega) only [w32_id]
theorem m_232 (t : Int) (h1 : 0 ≤ t) (h2 : t < 100) (h : Mem) (S : Sh) : MI X d 232 [.inl t] S h = some (44 + 10 * t, S, h) := by
  rw [e_232]
  simp (disch := omega) only [w32_id]
theorem m_251 (r : RM g s) (t w : Int) (h1 : 0 ≤ t) (h2 : t < 8) (h3 : 0 ≤ w) (h4 : w < 4) : MI X (d + 1) 251 [.inr (.inr 143), .inl t, .inl w] S0 (ov g) = some (th s t w, S0, ov g) := by
  rw [e_251]
  simp (disch := omega) only [↓K_mod, ↓G_mod, ↓al_144 _, ↓oC_of (m_231 _ _ _ _ _), w32_id]
  rw [r _ (by omega) (by omega)]
  rfl
theorem m_252 (r : RM g s) (m w : Int) (h1 : 0 ≤ m) (h2 : m < 6) (h3 : 0 ≤ w) (h4 : w < 10) : MI X (d + 1) 252 [.inr (.inr 143), .inl m, .inl w] S0 (ov g) = some (mn s m w, S0, ov g) := by
  rw [e_252]
  simp (disch := omega) only [↓K_mod, ↓G_mod, ↓al_144 _, ↓oC_of (m_232 _ _ _ _ _), w32_id]
  rw [r _ (by omega) (by omega)]
  rfl
theorem m_246 (r : RM g s) (t : Int) : MI X d 246 [.inr (.inr 143), .inl t] S0 (ov g) = some (b2i (0 ≤ t ∧ t < s 0), S0, ov g) := by
  rw [e_246]
  unfold b2i
  by_cases h1 : t < 0
  · rw [if_pos h1, if_neg (by omega)]
  · rw [if_neg h1]
    simp (disch := omega) only [↓K_mod, ↓G_mod, ↓al_144 _, r 0]
    by_cases h2 : t < s 0
    · rw [if_pos h2, if_pos (by omega)]
    · rw [if_neg h2, if_neg (by omega)]
theorem m_247 (r : RM g s) (t : Int) : MI X d 247 [.inr (.inr 143), .inl t] S0 (ov g) = some (b2i (0 ≤ t ∧ t < s 1), S0, ov g) := by
  rw [e_247]
  unfold b2i
  by_cases h1 : t < 0
  · rw [if_pos h1, if_neg (by omega)]
  · rw [if_neg h1]
    simp (disch := omega) only [↓K_mod, ↓G_mod, ↓al_144 _, r 1]
    by_cases h2 : t < s 1
    · rw [if_pos h2, if_pos (by omega)]
    · rw [if_neg h2, if_neg (by omega)]
theorem m_248 (r : RM g s) (m o : Int) : MI X (d + 1) 248 [.inr (.inr 143), .inl m, .inl o] S0 (ov g) = some (b2i (0 ≤ m ∧ m < s 1 ∧ 0 ≤ o ∧ o < s 1 ∧ m ≠ o), S0, ov g) := by
  rw [e_248]
  simp only [↓K_mod, ↓G_mod, ↓al_144 _, ↓oC_of (m_247 r _), ↓if_b2i]
  unfold b2i
  (repeat' split) <;> first | rfl | (exfalso; omega) | (rw [if_neg (by omega)]) | (rw [if_pos (by omega)])
theorem m_253 (r : RM g s) (t : Int) (h1 : 0 ≤ t) (h2 : t < 8) : MI X (d + 2) 253 [.inr (.inr 143), .inl t] S0 (ov g) = some (b2i (th s t 2 ≤ th s t 3), S0, ov g) := by
  rw [e_253]
  simp (disch := omega) only [↓K_mod, ↓G_mod, ↓al_144 _, ↓oC_of (m_251 r _ _ _ _ _ _)]
  unfold b2i
  (repeat' split) <;> first | rfl | (exfalso; omega)
theorem m_254 (r : RM g s) (hi : Iv N s) (m : Int) (h1 : 0 ≤ m) (h2 : m < s 1) : MI X (d + 3) 254 [.inr (.inr 143), .inl m] S0 (ov g) = some (b2i (0 < beY s (mn s m 3)), S0, ov g) := by
  obtain ⟨i0, i1, i2, i3, j2, j3, j4, j5, j6, j7, j8, j9, it, im, -⟩ := hi
  have m1 := im m h1 h2
  rw [e_254]
  simp (disch := omega) only [↓K_mod, ↓G_mod, ↓al_144 _, ↓oC_of (m_252 r _ _ _ _ _ _)]
  unfold beY
  by_cases ht : mn s m 3 = -1
  · rw [if_pos ht, if_pos ht]; rfl
  · have m2 := it (mn s m 3) (by omega) (by omega)
    rw [if_neg ht, if_neg ht]
    simp (disch := omega) only [↓K_mod, ↓G_mod, ↓al_144 _, ↓oC_of (m_252 r _ _ _ _ _ _), ↓oC_of (m_253 r _ _ _), ↓if_b2i]
    unfold b2i
    (repeat' split) <;> first | rfl | (exfalso; omega)
theorem m_255 (r : RM g s) (hi : Iv N s) (m : Int) (h1 : 0 ≤ m) (h2 : m < s 1) : MI X (d + 4) 255 [.inr (.inr 143), .inl m] S0 (ov g) = some (reN s m, S0, ov g) := by
  have hi' := hi
  obtain ⟨i0, i1, i2, i3, j2, j3, j4, j5, j6, j7, j8, j9, it, im, -⟩ := hi
  have m1 := im m h1 h2
  rw [e_255]
  simp (disch := omega) only [↓K_mod, ↓G_mod, ↓al_144 _, ↓oC_of (m_252 r _ _ _ _ _ _), ↓oC_of (m_254 r hi' _ _ _), ↓if_b2i]
  unfold reN
  by_cases z : 0 < beY s (mn s m 3)
  · have : mn s m 3 ≠ -1 := by intro e; rw [e] at z; exact absurd z (by simp [beY])
    rw [if_pos z, if_pos z]
    simp (disch := omega) only [↓K_mod, ↓G_mod, ↓al_144 _, ↓oC_of (m_252 r _ _ _ _ _ _), ↓oC_of (m_251 r _ _ _ _ _ _)]
  · rw [if_neg z, if_neg z]
theorem m_256 (r : RM g s) (hi : Iv N s) (m : Int) (h1 : 0 ≤ m) (h2 : m < s 1) : MI X (d + 4) 256 [.inr (.inr 143), .inl m] S0 (ov g) = some (blN s m, S0, ov g) := by
  have hi' := hi
  obtain ⟨i0, i1, i2, i3, j2, j3, j4, j5, j6, j7, j8, j9, it, im, -⟩ := hi
  have m1 := im m h1 h2
  rw [e_256]
  simp (disch := omega) only [↓K_mod, ↓G_mod, ↓al_144 _, ↓oC_of (m_252 r _ _ _ _ _ _), ↓oC_of (m_254 r hi' _ _ _), ↓if_b2i]
  unfold blN
  by_cases z : 0 < beY s (mn s m 3)
  · have : mn s m 3 ≠ -1 := by intro e; rw [e] at z; exact absurd z (by simp [beY])
    have m2 := it (mn s m 3) (by omega) (by omega)
    rw [if_pos z, if_pos z]
    simp (disch := omega) only [↓K_mod, ↓G_mod, ↓al_144 _, ↓oC_of (m_252 r _ _ _ _ _ _), ↓oC_of (m_251 r _ _ _ _ _ _), w32_id]
  · rw [if_neg z, if_neg z]
    simp (disch := omega) only [w32_id, Int.add_zero]
theorem m_257_l (r : RM g s) (hi : Iv N s) (t : Int) : ∀ (k : Nat) (m : Int), m + k = s 1 → 0 ≤ m → EI X (d + 2) 257 2 [some (.inr (.inr 143)), some (.inl t), some (.inl m)] [] S0 (ov g) = some (ff (fun m => decide (mn s m 3 = t)) k m, S0, ov g) := by
  obtain ⟨i0, i1, i2, i3, -⟩ := hi
  intro k
  induction k with
  | zero =>
    intro m hm h0
    rw [e_257_2]
    simp (disch := omega) only [↓K_mod, ↓G_mod, ↓al_144 _, r 1, ↓oK_some, ↓oC_some, ↓if_pos, ↓if_neg, rd_wr_eq, rd_wr_ne, rd_wr_ix, w32_id, ff]
  | succ k ih =>
    intro m hm h0
    rw [e_257_2]
    simp (disch := omega) only [↓K_mod, ↓G_mod, ↓al_144 _, r 1, ↓oK_some, ↓oC_some, ↓if_pos, ↓if_neg, rd_wr_eq, rd_wr_ne, rd_wr_ix, w32_id, ↓oC_of (m_252 r _ _ _ _ _ _), ih, ff]
    by_cases e : mn s m 3 = t <;> simp [e]
theorem m_257 (r : RM g s) (hi : Iv N s) (t : Int) : MI X (d + 2) 257 [.inr (.inr 143), .inl t] S0 (ov g) = some (hoN s t, S0, ov g) := by
  have i2 := hi.2.2.1
  rw [e_257, m_257_l r hi t (s 1).toNat 0 (by omega) (by omega)]
  rfl
theorem m_268 (r : RM g s) : MI X d 268 [.inr (.inr 143)] S0 (ov g) = some (b2i (s 6 ≠ -1), S0, ov g) := by
  rw [e_268]
  simp (disch := omega) only [↓K_mod, ↓G_mod, ↓al_144 _, r 6]
  unfold b2i
  (repeat' split) <;> first | rfl | contradiction
theorem m_269 (r : RM g s) (hi : Iv N s) : MI X (d + 1) 269 [.inr (.inr 143)] S0 (ov g) = some (neN s, S0, ov g) := by
  obtain ⟨i0, i1, i2, i3, j2, j3, j4, j5, j6, j7, j8, j9, it, im, iw, ia, ih, i6, iu⟩ := hi
  rw [e_269]
  simp (disch := omega) only [↓K_mod, ↓G_mod, ↓al_144 _, ↓oC_of (m_268 r), ↓if_b2i]
  unfold neN
  by_cases z : s 6 = -1
  · rw [if_neg (by omega), if_pos z]
  · have z1 := iu z
    rw [if_pos z, if_neg z]
    simp (disch := omega) only [↓K_mod, ↓G_mod, ↓al_144 _, r 8, r 9, w32_id]
theorem tmod2 {x : Int} (h : 0 ≤ x) : am_rem x 2 = x % 2 := Int.tmod_eq_emod_of_nonneg h
theorem m_270 (r : RM g s) (h : 0 ≤ s 10) : MI X d 270 [.inr (.inr 143)] S0 (ov g) = some (s 10 % 2, S0, ov g) := by
  rw [e_270]
  simp (disch := omega) only [↓K_mod, ↓G_mod, ↓al_144 _, r 10, tmod2]
theorem m_271 (r : RM g s) (h : 0 ≤ s 10) : MI X (d + 1) 271 [.inr (.inr 143)] S0 (ov g) = some (s (6 + s 10 % 2), S0, ov g) := by
  rw [e_271]
  simp (disch := omega) only [↓K_mod, ↓G_mod, ↓al_144 _, ↓oC_of (m_270 r _), w32_id]
  rw [r _ (by omega) (by omega)]
end
