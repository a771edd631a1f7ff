/-! WHAT IS ASKED ONLY: both answer alike; an answer and a STATUS -/
section
variable {X : Xs} {d : Nat} {g : Mem} {s : Int → Int} {N : Int}
theorem m_261_6 (r : RM g s) (hi : Iv N s) : ∀ (k : Nat) (o a : Int), o + k = s 0 → 0 ≤ o → EI X (d + 3) 261 4 [some (.inr (.inr 143)), some (.inl 6), some (.inl a), some (.inl o), none] [] S0 (ov g) = some (se (fun t => decide (th s t 2 ≤ th s t 3)) k o a, S0, ov g) := by
  obtain ⟨i0, i1, i2, i3, -⟩ := hi
  intro k
  induction k with
  | zero =>
    intro o a hm h0
    rw [e_261_4]
    simp (disch := omega) only [↓K_mod, ↓G_mod, ↓al_144 _, r 0, ↓oK_some, ↓oC_some, ↓if_pos, ↓if_neg, rd_wr_eq, rd_wr_ne, rd_wr_ix, w32_id, se]
  | succ k ih =>
    intro o a hm h0
    rw [e_261_4]
    simp (disch := omega) only [↓K_mod, ↓G_mod, ↓al_144 _, r 0, ↓oK_some, ↓oC_some, ↓if_pos, ↓if_neg, rd_wr_eq, rd_wr_ne, rd_wr_ix, w32_id, ↓oC_of (m_253 r _ _ _), ↓if_b2i, ih, se]
    by_cases e : th s o 2 ≤ th s o 3 <;> simp [e]
theorem m_261_7 (r : RM g s) (hi : Iv N s) : ∀ (k : Nat) (o a : Int), o + k = s 0 → 0 ≤ o → EI X (d + 3) 261 4 [some (.inr (.inr 143)), some (.inl 7), some (.inl a), some (.inl o), none] [] S0 (ov g) = some (se (fun t => decide (hoN s t = -1)) k o a, S0, ov g) := by
  have hi' := hi
  obtain ⟨i0, i1, i2, i3, -⟩ := hi
  intro k
  induction k with
  | zero =>
    intro o a hm h0
    rw [e_261_4]
    simp (disch := omega) only [↓K_mod, ↓G_mod, ↓al_144 _, r 0, ↓oK_some, ↓oC_some, ↓if_pos, ↓if_neg, rd_wr_eq, rd_wr_ne, rd_wr_ix, w32_id, se]
  | succ k ih =>
    intro o a hm h0
    rw [e_261_4]
    simp (disch := omega) only [↓K_mod, ↓G_mod, ↓al_144 _, r 0, ↓oK_some, ↓oC_some, ↓if_pos, ↓if_neg, rd_wr_eq, rd_wr_ne, rd_wr_ix, w32_id, ↓oC_of (m_257 r hi' _), ih, se]
    by_cases e : hoN s o = -1 <;> simp [e]
theorem m_261_8 (r : RM g s) (hi : Iv N s) : ∀ (k : Nat) (o a : Int), o + k = s 1 → 0 ≤ o → EI X (d + 3) 261 4 [some (.inr (.inr 143)), some (.inl 8), some (.inl a), some (.inl o), none] [] S0 (ov g) = some (se (fun m => decide (0 < mn s m 1)) k o a, S0, ov g) := by
  obtain ⟨i0, i1, i2, i3, -⟩ := hi
  intro k
  induction k with
  | zero =>
    intro o a hm h0
    rw [e_261_4]
    simp (disch := omega) only [↓K_mod, ↓G_mod, ↓al_144 _, r 1, ↓oK_some, ↓oC_some, ↓if_pos, ↓if_neg, rd_wr_eq, rd_wr_ne, rd_wr_ix, w32_id, se]
  | succ k ih =>
    intro o a hm h0
    rw [e_261_4]
    simp (disch := omega) only [↓K_mod, ↓G_mod, ↓al_144 _, r 1, ↓oK_some, ↓oC_some, ↓if_pos, ↓if_neg, rd_wr_eq, rd_wr_ne, rd_wr_ix, w32_id, ↓oC_of (m_252 r _ _ _ _ _ _), ih, se]
    by_cases e : 0 < mn s o 1 <;> simp [e]
theorem c_181 (v : Int) : MI X d 181 [.inr (.inr 1), .inl v] S0 (ov g) = some (v, S0, ov (wr g 1 15 0)) := by
  rw [e_181]; simp only [↓K_top, ↓G_top, ↓P_top]
theorem c_183 (v : Int) : MI X d 183 [.inr (.inr 1), .inl v] S0 (ov g) = some (-1, S0, ov (wr g 1 15 v)) := by
  rw [e_183]; simp only [↓K_top, ↓G_top, ↓P_top]
theorem c_184 : MI X d 184 [.inr (.inr 1)] S0 (ov g) = some (1, S0, ov (wr g 1 15 0)) := by
  rw [e_184]; simp only [↓K_top, ↓G_top, ↓P_top]
theorem c_185 (v : Int) : MI X d 185 [.inr (.inr 1), .inl v] S0 (ov g) = some (0, S0, ov (wr g 1 15 v)) := by
  rw [e_185]; simp only [↓K_top, ↓G_top, ↓P_top]
theorem c_182 (v : Int) : MI X (d + 1) 182 [.inr (.inr 1), .inl v] S0 (ov g) = some (v, S0, ov (wr g 1 15 (if v = -1 then 6 else 0))) := by
  rw [e_182]
  by_cases h : v = -1
  · simp (disch := omega) only [↓K_top, ↓G_top, ↓P_top, ↓oK_some, ↓oC_some, ↓if_pos, ↓if_neg, rd_wr_eq, rd_wr_ne, rd_wr_ix, w32_id, c_183, h, ↓reduceIte]
  · simp (disch := omega) only [↓K_top, ↓G_top, ↓P_top, ↓oK_some, ↓oC_some, ↓if_pos, ↓if_neg, rd_wr_eq, rd_wr_ne, rd_wr_ix, w32_id, c_181, h, ↓reduceIte]
theorem m_200 (v : Int) : MI X d 200 [.inr (.inr 143), .inl v] S0 (ov g) = some (b2i (v = 0), S0, ov (wr g 143 2 v)) := by
  rw [e_200]; simp only [↓K_mod, ↓G_mod, ↓P_mod, ↓al_144 _, ↓as_144]
  unfold b2i
  split <;> rfl
theorem m_201 (v : Int) : MI X d 201 [.inr (.inr 143), .inl v] S0 (ov g) = some (-1, S0, ov (wr g 143 2 v)) := by
  rw [e_201]; simp only [↓K_mod, ↓G_mod, ↓P_mod, ↓al_144 _, ↓as_144]
theorem m_202 (v : Int) : MI X d 202 [.inr (.inr 143), .inl v] S0 (ov g) = some (v, S0, ov (wr g 143 2 0)) := by
  rw [e_202]; simp only [↓K_mod, ↓G_mod, ↓P_mod, ↓al_144 _, ↓as_144]
theorem m_203 (v : Int) : MI X (d + 1) 203 [.inr (.inr 143), .inl v] S0 (ov g) = some (v, S0, ov (wr g 143 2 (if v = -1 then 6 else 0))) := by
  rw [e_203]
  by_cases h : v = -1
  · simp (disch := omega) only [↓K_mod, ↓G_mod, ↓P_mod, ↓al_144 _, ↓as_144, ↓oK_some, ↓oC_some, ↓if_pos, ↓if_neg, rd_wr_eq, rd_wr_ne, rd_wr_ix, w32_id, m_201, h, ↓reduceIte]
  · simp (disch := omega) only [↓K_mod, ↓G_mod, ↓P_mod, ↓al_144 _, ↓as_144, ↓oK_some, ↓oC_some, ↓if_pos, ↓if_neg, rd_wr_eq, rd_wr_ne, rd_wr_ix, w32_id, m_202, h, ↓reduceIte]
end
/-- an answer with its STATUS -/
def qTold (s : Int → Int) (w : Int) : Int × Int :=
  if w < 0 ∨ 9 < w then (-1, 1) else if w < 6 then (s w, 0) else if w = 6 then (brS s, 0) else if w = 7 then (uhS s, 0) else if w = 8 then (liS s, 0) else (awN s, 0)
def qThing (s : Int → Int) (t w : Int) : Int × Int :=
  if 0 ≤ t ∧ t < s 0 ∧ 0 ≤ w ∧ w ≤ 4 then (if w = 4 then (b2i (th s t 2 ≤ th s t 3), 0) else (th s t w, 0)) else (-1, 1)
def orN (v : Int) : Int × Int := if v = -1 then (-1, 6) else (v, 0)
def qHolder (s : Int → Int) (t : Int) : Int × Int := if 0 ≤ t ∧ t < s 0 then orN (hoN s t) else (-1, 1)
def qMan (s : Int → Int) (m w : Int) : Int × Int :=
  if 0 ≤ m ∧ m < s 1 ∧ 0 ≤ w ∧ w ≤ 6 then (if w = 3 then (reN s m, 0) else if w = 4 then (blN s m, 0) else if w = 5 then (woN s m, 0) else if w = 6 then (loN s m, 0) else (mn s m w, 0)) else (-1, 1)
def qHolds (s : Int → Int) (m : Int) : Int × Int := if 0 ≤ m ∧ m < s 1 then orN (mn s m 3) else (-1, 1)
def qWon (s : Int → Int) (m o : Int) : Int × Int := if 0 ≤ m ∧ m < s 1 ∧ 0 ≤ o ∧ o < s 1 ∧ m ≠ o then (mn s m (4 + o), 0) else (-1, 1)
def qDuel (s : Int → Int) (w : Int) : Int × Int :=
  if w < 0 ∨ 6 < w then (-1, 1) else if s 6 = -1 then (-1, 6) else if w = 4 then (neN s, 0) else if w = 5 then (s 10, 0) else if w = 6 then (s (6 + s 10 % 2), 0) else (s (6 + w), 0)
section
variable {X : Xs} {d : Nat} {g : Mem} {s : Int → Int} {N : Int}
theorem isD19 : isD 19 := Or.inl rfl
theorem c_139 (r : RD g 19 s) (hi : Iv N s) (hN : N < 1000000) (w : Int) : MI X (d + 3) 139 [.inr (.inr 1), .inl w] S0 (ov g) = some ((qTold s w).1, S0, ov (wr g 1 15 (qTold s w).2)) := by
  have hr := r
  have hb := isD19
  obtain ⟨r0, r1, r2, rt, rm, rw', r6, r7⟩ := r
  rw [e_139]
  unfold qTold
  by_cases h : w < 0 ∨ 9 < w
  · rw [if_pos h]
    simp (disch := omega) only [↓K_top, ↓G_top, ↓P_top, ↓oK_some, ↓oC_some, ↓if_pos, ↓if_neg, rd_wr_eq, rd_wr_ne, rd_wr_ix, w32_id, ↓oC_of (c_183 _)]
  · rw [if_neg h]
    have hc : w = 0 ∨ w = 1 ∨ w = 2 ∨ w = 3 ∨ w = 4 ∨ w = 5 ∨ w = 6 ∨ w = 7 ∨ w = 8 ∨ w = 9 := by omega
    rcases hc with rfl | rfl | rfl | rfl | rfl | rfl | rfl | rfl | rfl | rfl <;> simp (disch := omega) only [↓K_top, ↓G_top, ↓P_top, ↓K_daw hb, ↓G_daw hb, ↓al_D1 _ hb, ↓al_D2 _ hb, ↓al_D3 _ hb, ↓al_D4 _ hb, ↓al_D5 _ hb, ↓al_D6 _ hb, ↓al_D7 _ hb, ↓al_D8 _ hb, ↓al_D9 _ hb, ↓al_D10 _ hb, ↓oK_some, ↓oC_some, ↓if_pos, ↓if_neg, rd_wr_eq, rd_wr_ne, rd_wr_ix, w32_id, ↓oC_of (c_32 hb hr hi), ↓oC_of (c_33 hb hr hi), ↓oC_of (c_34 hb hr hi), ↓oC_of (c_39 hb hr hi hN), ↓oC_of (c_181 _), r0, r1, r2] <;> rfl
theorem m_262 (r : RM g s) (hi : Iv N s) (hN : N < 1000000) (w : Int) : MI X (d + 4) 262 [.inr (.inr 143), .inl w] S0 (ov g) = some ((qTold s w).1, S0, ov (wr g 143 2 (qTold s w).2)) := by
  have i0 := hi.1
  have i2 := hi.2.2.1
  rw [e_262]
  unfold qTold
  by_cases h : w < 0 ∨ 9 < w
  · rw [if_pos h]
    by_cases h2 : w < 0 <;> simp (disch := omega) only [↓K_mod, ↓G_mod, ↓P_mod, ↓al_144 _, ↓as_144, ↓oK_some, ↓oC_some, ↓if_pos, ↓if_neg, rd_wr_eq, rd_wr_ne, rd_wr_ix, w32_id, ↓oC_of (m_201 _)]
  · rw [if_neg h]
    have hc : w = 0 ∨ w = 1 ∨ w = 2 ∨ w = 3 ∨ w = 4 ∨ w = 5 ∨ w = 6 ∨ w = 7 ∨ w = 8 ∨ w = 9 := by omega
    have q6 : MI X (d + 3) 261 [.inr (.inr 143), .inl 6] S0 (ov g) = some (brS s, S0, ov g) := by
      rw [e_261, m_261_6 r hi (s 0).toNat 0 0 (by omega) (by omega)]; rfl
    have q7 : MI X (d + 3) 261 [.inr (.inr 143), .inl 7] S0 (ov g) = some (uhS s, S0, ov g) := by
      rw [e_261, m_261_7 r hi (s 0).toNat 0 0 (by omega) (by omega)]; rfl
    have q8 : MI X (d + 3) 261 [.inr (.inr 143), .inl 8] S0 (ov g) = some (liS s, S0, ov g) := by
      rw [e_261, m_261_8 r hi (s 1).toNat 0 0 (by omega) (by omega)]; rfl
    rcases hc with rfl | rfl | rfl | rfl | rfl | rfl | rfl | rfl | rfl | rfl <;> simp (disch := omega) only [↓K_mod, ↓G_mod, ↓P_mod, ↓al_144 _, ↓as_144, ↓oK_some, ↓oC_some, ↓if_pos, ↓if_neg, rd_wr_eq, rd_wr_ne, rd_wr_ix, w32_id, ↓oC_of q6, ↓oC_of q7, ↓oC_of q8, ↓oC_of (m_260 r hi hN), ↓oC_of (m_202 _), r 0, r 1, r 2, r 3, r 4, r 5]
end
