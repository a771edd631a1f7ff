/-! SUMS AND SETS, asked of both -/
theorem su_mono (f f2 : Int → Int) : ∀ (k : Nat) (m : Int), (∀ i, m ≤ i → i < m + k → f i ≤ f2 i) → su f k m ≤ su f2 k m
  | 0, _, _ => Int.le_refl 0
  | k + 1, m, h => by
    have h1 := su_mono f f2 k (m + 1) (fun i a b => h i (by omega) (by omega))
    have h2 := h m (by omega) (by omega)
    show f m + su f k (m + 1) ≤ f2 m + su f2 k (m + 1)
    omega
theorem su_congr (f f2 : Int → Int) (k : Nat) (m : Int) (h : ∀ i, m ≤ i → i < m + k → f i = f2 i) : su f k m = su f2 k m := by
  have a := su_mono f f2 k m (fun i a b => by rw [h i a b]; exact Int.le_refl _)
  have b := su_mono f2 f k m (fun i a b => by rw [h i a b]; exact Int.le_refl _)
  omega
section
variable {s : Int → Int} {N : Int}
theorem Iv_wo (hi : Iv N s) {m : Int} (h1 : 0 ≤ m) (h2 : m < s 1) : 0 ≤ woN s m ∧ woN s m ≤ N := by
  obtain ⟨i0, i1, i2, i3, j2, j3, j4, j5, j6, j7, j8, j9, it, im, iw, ia, -⟩ := hi
  have nn : ∀ x, 0 ≤ x → x < s 1 → 0 ≤ woN s x := fun x a b => su_nn _ _ _ (fun i c e => iw x i a b (by omega) (by omega))
  refine ⟨nn m h1 h2, Int.le_trans ?_ ia⟩
  exact su_le (fun m => woN s m) (s 1).toNat 0 (fun i c e => nn i (by omega) (by omega)) m (by omega) (by omega)
theorem Iv_mn (hi : Iv N s) {m o : Int} (h1 : 0 ≤ m) (h2 : m < s 1) (h3 : 0 ≤ o) (h4 : o < s 1) : 0 ≤ mn s m (4 + o) ∧ mn s m (4 + o) ≤ woN s m := by
  obtain ⟨i0, i1, i2, i3, j2, j3, j4, j5, j6, j7, j8, j9, it, im, iw, ia, -⟩ := hi
  exact ⟨iw m o h1 h2 h3 h4, su_le (fun o => mn s m (4 + o)) (s 1).toNat 0 (fun i c e => iw m i h1 h2 (by omega) (by omega)) o (by omega) (by omega)⟩
theorem Iv_lo (hi : Iv N s) {m : Int} (h1 : 0 ≤ m) (h2 : m < s 1) : 0 ≤ loN s m ∧ loN s m ≤ N := by
  have hi' := hi
  obtain ⟨i0, i1, i2, i3, j2, j3, j4, j5, j6, j7, j8, j9, it, im, iw, ia, -⟩ := hi
  refine ⟨su_nn _ _ _ (fun i c e => iw i m (by omega) (by omega) h1 h2), Int.le_trans ?_ ia⟩
  exact su_mono _ _ _ _ (fun i c e => (Iv_mn hi' (by omega) (by omega) h1 h2).2)
theorem Iv_aw (hi : Iv N s) : 0 ≤ awN s ∧ awN s ≤ N := by
  have hi' := hi
  obtain ⟨i0, i1, i2, i3, j2, j3, j4, j5, j6, j7, j8, j9, it, im, iw, ia, -⟩ := hi
  exact ⟨su_nn _ _ _ (fun i c e => (Iv_wo hi' (by omega) (by omega)).1), ia⟩
end
section
variable {X : Xs} {d : Nat} {g : Mem} {s : Int → Int} {b N : Int}
theorem c_35 (hb : isD b) (r : RD g b s) (hi : Iv N s) (m o : Int) (h1 : 0 ≤ m) (h2 : m < s 1) (h3 : 0 ≤ o) (h4 : o < s 1) : MI X d 35 [.inr (.inr b), .inl m, .inl o] S0 (ov g) = some (mn s m (4 + o), S0, ov g) := by
  obtain ⟨r0, r1, r2, rt, rm, rw', r6, r7⟩ := r
  obtain ⟨i0, i1, i2, i3, -⟩ := hi
  rw [e_35]
  simp (disch := omega) only [↓K_daw hb, ↓G_daw hb, ↓al_D1 _ hb, ↓al_D2 _ hb, ↓al_D3 _ hb, ↓al_D4 _ hb, ↓al_D5 _ hb, ↓al_D6 _ hb, ↓al_D7 _ hb, ↓al_D8 _ hb, ↓al_D9 _ hb, ↓al_D10 _ hb, ↓oK_some, ↓oC_some, ↓if_pos, ↓if_neg, rd_wr_eq, rd_wr_ne, rd_wr_ix, w32_id, rw']
theorem c_37_l (hb : isD b) (r : RD g b s) (hi : Iv N s) (m : Int) (h1 : 0 ≤ m) (h2 : m < s 1) : ∀ (k : Nat) (o a : Int), o + k = s 1 → 0 ≤ o → 0 ≤ a → a + su (fun o => mn s m (4 + o)) k o < 2147483648 → EI X (d + 1) 37 4 [some (.inr (.inr b)), some (.inl m), some (.inl a), some (.inl o)] [] S0 (ov g) = some (a + su (fun o => mn s m (4 + o)) k o, S0, ov g) := by
  have hr := r
  have hi' := hi
  obtain ⟨r0, r1, r2, rt, rm, rw', r6, r7⟩ := r
  obtain ⟨i0, i1, i2, i3, j2, j3, j4, j5, j6, j7, j8, j9, it, im, iw, ia, -⟩ := hi
  intro k
  induction k with
  | zero =>
    intro o a hm h0 h3 h4
    rw [e_37_4]
    simp (disch := omega) only [↓K_daw hb, ↓G_daw hb, ↓al_D1 _ hb, ↓al_D2 _ hb, ↓al_D3 _ hb, ↓al_D4 _ hb, ↓al_D5 _ hb, ↓al_D6 _ hb, ↓al_D7 _ hb, ↓al_D8 _ hb, ↓al_D9 _ hb, ↓al_D10 _ hb, ↓oK_some, ↓oC_some, ↓if_pos, ↓if_neg, rd_wr_eq, rd_wr_ne, rd_wr_ix, w32_id, su, Int.add_zero]
  | succ k ih =>
    intro o a hm h0 h3 h4
    have h4' : a + (mn s m (4 + o) + su (fun o => mn s m (4 + o)) k (o + 1)) < 2147483648 := h4
    have q1 := iw m o h1 h2 h0 (by omega)
    have q2 := su_nn (fun o => mn s m (4 + o)) k (o + 1) (fun i c e => iw m i h1 h2 (by omega) (by omega))
    rw [e_37_4]
    simp (disch := omega) only [↓K_daw hb, ↓G_daw hb, ↓al_D1 _ hb, ↓al_D2 _ hb, ↓al_D3 _ hb, ↓al_D4 _ hb, ↓al_D5 _ hb, ↓al_D6 _ hb, ↓al_D7 _ hb, ↓al_D8 _ hb, ↓al_D9 _ hb, ↓al_D10 _ hb, ↓oK_some, ↓oC_some, ↓if_pos, ↓if_neg, rd_wr_eq, rd_wr_ne, rd_wr_ix, w32_id, ↓oC_of (c_35 hb hr hi' _ _ _ _ _ _), ih, su, Int.add_assoc]
theorem c_37 (hb : isD b) (r : RD g b s) (hi : Iv N s) (hN : N < 1000000) (m : Int) (h1 : 0 ≤ m) (h2 : m < s 1) : MI X (d + 1) 37 [.inr (.inr b), .inl m] S0 (ov g) = some (woN s m, S0, ov g) := by
  have q := Iv_wo hi h1 h2
  have q2 : woN s m = su (fun o => mn s m (4 + o)) (s 1).toNat 0 := rfl
  have i2 := hi.2.2.1
  rw [e_37, c_37_l hb r hi m h1 h2 (s 1).toNat 0 0 (by omega) (by omega) (by omega) (by omega), Int.zero_add]
  rfl
theorem c_38_l (hb : isD b) (r : RD g b s) (hi : Iv N s) (m : Int) (h1 : 0 ≤ m) (h2 : m < s 1) : ∀ (k : Nat) (o a : Int), o + k = s 1 → 0 ≤ o → 0 ≤ a → a + su (fun o => mn s o (4 + m)) k o < 2147483648 → EI X (d + 1) 38 4 [some (.inr (.inr b)), some (.inl m), some (.inl a), some (.inl o)] [] S0 (ov g) = some (a + su (fun o => mn s o (4 + m)) k o, S0, ov g) := by
  have hr := r
  have hi' := hi
  obtain ⟨r0, r1, r2, rt, rm, rw', r6, r7⟩ := r
  obtain ⟨i0, i1, i2, i3, j2, j3, j4, j5, j6, j7, j8, j9, it, im, iw, ia, -⟩ := hi
  intro k
  induction k with
  | zero =>
    intro o a hm h0 h3 h4
    rw [e_38_4]
    simp (disch := omega) only [↓K_daw hb, ↓G_daw hb, ↓al_D1 _ hb, ↓al_D2 _ hb, ↓al_D3 _ hb, ↓al_D4 _ hb, ↓al_D5 _ hb, ↓al_D6 _ hb, ↓al_D7 _ hb, ↓al_D8 _ hb, ↓al_D9 _ hb, ↓al_D10 _ hb, ↓oK_some, ↓oC_some, ↓if_pos, ↓if_neg, rd_wr_eq, rd_wr_ne, rd_wr_ix, w32_id, su, Int.add_zero]
  | succ k ih =>
    intro o a hm h0 h3 h4
    have h4' : a + (mn s o (4 + m) + su (fun o => mn s o (4 + m)) k (o + 1)) < 2147483648 := h4
    have q1 := iw o m h0 (by omega) h1 h2
    have q2 := su_nn (fun o => mn s o (4 + m)) k (o + 1) (fun i c e => iw i m (by omega) (by omega) h1 h2)
    rw [e_38_4]
    simp (disch := omega) only [↓K_daw hb, ↓G_daw hb, ↓al_D1 _ hb, ↓al_D2 _ hb, ↓al_D3 _ hb, ↓al_D4 _ hb, ↓al_D5 _ hb, ↓al_D6 _ hb, ↓al_D7 _ hb, ↓al_D8 _ hb, ↓al_D9 _ hb, ↓al_D10 _ hb, ↓oK_some, ↓oC_some, ↓if_pos, ↓if_neg, rd_wr_eq, rd_wr_ne, rd_wr_ix, w32_id, ↓oC_of (c_35 hb hr hi' _ _ _ _ _ _), ih, su, Int.add_assoc]
theorem c_38 (hb : isD b) (r : RD g b s) (hi : Iv N s) (hN : N < 1000000) (m : Int) (h1 : 0 ≤ m) (h2 : m < s 1) : MI X (d + 1) 38 [.inr (.inr b), .inl m] S0 (ov g) = some (loN s m, S0, ov g) := by
  have q := Iv_lo hi h1 h2
  have q2 : loN s m = su (fun o => mn s o (4 + m)) (s 1).toNat 0 := rfl
  have i2 := hi.2.2.1
  rw [e_38, c_38_l hb r hi m h1 h2 (s 1).toNat 0 0 (by omega) (by omega) (by omega) (by omega), Int.zero_add]
  rfl
theorem c_39_l (hb : isD b) (r : RD g b s) (hi : Iv N s) (hN : N < 1000000) : ∀ (k : Nat) (o a : Int), o + k = s 1 → 0 ≤ o → 0 ≤ a → a + su (fun o => woN s o) k o < 2147483648 → EI X (d + 2) 39 4 [some (.inr (.inr b)), some (.inl a), some (.inl o)] [] S0 (ov g) = some (a + su (fun o => woN s o) k o, S0, ov g) := by
  have hr := r
  have hi' := hi
  obtain ⟨r0, r1, r2, rt, rm, rw', r6, r7⟩ := r
  obtain ⟨i0, i1, i2, i3, j2, j3, j4, j5, j6, j7, j8, j9, it, im, iw, ia, -⟩ := hi
  intro k
  induction k with
  | zero =>
    intro o a hm h0 h3 h4
    rw [e_39_4]
    simp (disch := omega) only [↓K_daw hb, ↓G_daw hb, ↓al_D1 _ hb, ↓al_D2 _ hb, ↓al_D3 _ hb, ↓al_D4 _ hb, ↓al_D5 _ hb, ↓al_D6 _ hb, ↓al_D7 _ hb, ↓al_D8 _ hb, ↓al_D9 _ hb, ↓al_D10 _ hb, ↓oK_some, ↓oC_some, ↓if_pos, ↓if_neg, rd_wr_eq, rd_wr_ne, rd_wr_ix, w32_id, su, Int.add_zero]
  | succ k ih =>
    intro o a hm h0 h3 h4
    have h4' : a + (woN s o + su (fun o => woN s o) k (o + 1)) < 2147483648 := h4
    have q1 := Iv_wo hi' h0 (by omega)
    have q2 := su_nn (fun o => woN s o) k (o + 1) (fun i c e => (Iv_wo hi' (by omega) (by omega)).1)
    rw [e_39_4]
    simp (disch := omega) only [↓K_daw hb, ↓G_daw hb, ↓al_D1 _ hb, ↓al_D2 _ hb, ↓al_D3 _ hb, ↓al_D4 _ hb, ↓al_D5 _ hb, ↓al_D6 _ hb, ↓al_D7 _ hb, ↓al_D8 _ hb, ↓al_D9 _ hb, ↓al_D10 _ hb, ↓oK_some, ↓oC_some, ↓if_pos, ↓if_neg, rd_wr_eq, rd_wr_ne, rd_wr_ix, w32_id, ↓oC_of (c_37 hb hr hi' hN _ _ _), ih, su, Int.add_assoc]
theorem c_39 (hb : isD b) (r : RD g b s) (hi : Iv N s) (hN : N < 1000000) : MI X (d + 2) 39 [.inr (.inr b)] S0 (ov g) = some (awN s, S0, ov g) := by
  have q := Iv_aw hi
  have q2 : awN s = su (fun o => woN s o) (s 1).toNat 0 := rfl
  have i2 := hi.2.2.1
  rw [e_39, c_39_l hb r hi hN (s 1).toNat 0 0 (by omega) (by omega) (by omega) (by omega), Int.zero_add]
  rfl
theorem c_32_l (hb : isD b) (r : RD g b s) (hi : Iv N s) : ∀ (k : Nat) (o a : Int), o + k = s 0 → 0 ≤ o → EI X (d + 1) 32 4 [some (.inr (.inr b)), some (.inl a), some (.inl o)] [] S0 (ov g) = some (se (fun t => decide (th s t 2 ≤ th s t 3)) k o a, S0, ov g) := by
  have hr := r
  have hi' := hi
  obtain ⟨r0, r1, r2, rt, rm, rw', r6, r7⟩ := r
  obtain ⟨i0, i1, i2, i3, -⟩ := hi
  intro k
  induction k with
  | zero =>
    intro o a hm h0
    rw [e_32_4]
    simp (disch := omega) only [↓K_daw hb, ↓G_daw hb, ↓al_D1 _ hb, ↓al_D2 _ hb, ↓al_D3 _ hb, ↓al_D4 _ hb, ↓al_D5 _ hb, ↓al_D6 _ hb, ↓al_D7 _ hb, ↓al_D8 _ hb, ↓al_D9 _ hb, ↓al_D10 _ hb, ↓oK_some, ↓oC_some, ↓if_pos, ↓if_neg, rd_wr_eq, rd_wr_ne, rd_wr_ix, w32_id, se]
  | succ k ih =>
    intro o a hm h0
    rw [e_32_4]
    simp (disch := omega) only [↓K_daw hb, ↓G_daw hb, ↓al_D1 _ hb, ↓al_D2 _ hb, ↓al_D3 _ hb, ↓al_D4 _ hb, ↓al_D5 _ hb, ↓al_D6 _ hb, ↓al_D7 _ hb, ↓al_D8 _ hb, ↓al_D9 _ hb, ↓al_D10 _ hb, ↓oK_some, ↓oC_some, ↓if_pos, ↓if_neg, rd_wr_eq, rd_wr_ne, rd_wr_ix, w32_id, ↓oC_of (c_28 hb hr hi' _ _ _), ↓if_b2i, ih, se]
    by_cases e : th s o 2 ≤ th s o 3 <;> simp [e]
theorem c_32 (hb : isD b) (r : RD g b s) (hi : Iv N s) : MI X (d + 1) 32 [.inr (.inr b)] S0 (ov g) = some (brS s, S0, ov g) := by
  have i2 := hi.1
  rw [e_32, c_32_l hb r hi (s 0).toNat 0 0 (by omega) (by omega)]
  rfl
theorem c_33_l (hb : isD b) (r : RD g b s) (hi : Iv N s) : ∀ (k : Nat) (o a : Int), o + k = s 0 → 0 ≤ o → EI X (d + 1) 33 4 [some (.inr (.inr b)), some (.inl a), some (.inl o)] [] S0 (ov g) = some (se (fun t => decide (hoN s t = -1)) k o a, S0, ov g) := by
  have hr := r
  have hi' := hi
  obtain ⟨r0, r1, r2, rt, rm, rw', r6, r7⟩ := r
  obtain ⟨i0, i1, i2, i3, -⟩ := hi
  intro k
  induction k with
  | zero =>
    intro o a hm h0
    rw [e_33_4]
    simp (disch := omega) only [↓K_daw hb, ↓G_daw hb, ↓al_D1 _ hb, ↓al_D2 _ hb, ↓al_D3 _ hb, ↓al_D4 _ hb, ↓al_D5 _ hb, ↓al_D6 _ hb, ↓al_D7 _ hb, ↓al_D8 _ hb, ↓al_D9 _ hb, ↓al_D10 _ hb, ↓oK_some, ↓oC_some, ↓if_pos, ↓if_neg, rd_wr_eq, rd_wr_ne, rd_wr_ix, w32_id, se]
  | succ k ih =>
    intro o a hm h0
    rw [e_33_4]
    simp (disch := omega) only [↓K_daw hb, ↓G_daw hb, ↓al_D1 _ hb, ↓al_D2 _ hb, ↓al_D3 _ hb, ↓al_D4 _ hb, ↓al_D5 _ hb, ↓al_D6 _ hb, ↓al_D7 _ hb, ↓al_D8 _ hb, ↓al_D9 _ hb, ↓al_D10 _ hb, ↓oK_some, ↓oC_some, ↓if_pos, ↓if_neg, rd_wr_eq, rd_wr_ne, rd_wr_ix, w32_id, ↓oC_of (c_27 hb hr hi' _), ih, se]
    by_cases e : hoN s o = -1 <;> simp [e]
theorem c_33 (hb : isD b) (r : RD g b s) (hi : Iv N s) : MI X (d + 1) 33 [.inr (.inr b)] S0 (ov g) = some (uhS s, S0, ov g) := by
  have i2 := hi.1
  rw [e_33, c_33_l hb r hi (s 0).toNat 0 0 (by omega) (by omega)]
  rfl
theorem c_34_l (hb : isD b) (r : RD g b s) (hi : Iv N s) : ∀ (k : Nat) (o a : Int), o + k = s 1 → 0 ≤ o → EI X d 34 4 [some (.inr (.inr b)), some (.inl a), some (.inl o)] [] S0 (ov g) = some (se (fun m => decide (0 < mn s m 1)) k o a, S0, ov g) := by
  obtain ⟨r0, r1, r2, rt, rm, rw', r6, r7⟩ := r
  obtain ⟨i0, i1, i2, i3, -⟩ := hi
  intro k
  induction k with
  | zero =>
    intro o a hm h0
    rw [e_34_4]
    simp (disch := omega) only [↓K_daw hb, ↓G_daw hb, ↓al_D1 _ hb, ↓al_D2 _ hb, ↓al_D3 _ hb, ↓al_D4 _ hb, ↓al_D5 _ hb, ↓al_D6 _ hb, ↓al_D7 _ hb, ↓al_D8 _ hb, ↓al_D9 _ hb, ↓al_D10 _ hb, ↓oK_some, ↓oC_some, ↓if_pos, ↓if_neg, rd_wr_eq, rd_wr_ne, rd_wr_ix, w32_id, se]
  | succ k ih =>
    intro o a hm h0
    rw [e_34_4]
    simp (disch := omega) only [↓K_daw hb, ↓G_daw hb, ↓al_D1 _ hb, ↓al_D2 _ hb, ↓al_D3 _ hb, ↓al_D4 _ hb, ↓al_D5 _ hb, ↓al_D6 _ hb, ↓al_D7 _ hb, ↓al_D8 _ hb, ↓al_D9 _ hb, ↓al_D10 _ hb, ↓oK_some, ↓oC_some, ↓if_pos, ↓if_neg, rd_wr_eq, rd_wr_ne, rd_wr_ix, w32_id, rm, ih, se]
    by_cases e : 0 < mn s o 1 <;> simp [e]
theorem c_34 (hb : isD b) (r : RD g b s) (hi : Iv N s) : MI X d 34 [.inr (.inr b)] S0 (ov g) = some (liS s, S0, ov g) := by
  have i2 := hi.2.2.1
  rw [e_34, c_34_l hb r hi (s 1).toNat 0 0 (by omega) (by omega)]
  rfl
theorem c_40 (hb : isD b) (r : RD g b s) : MI X d 40 [.inr (.inr b)] S0 (ov g) = some (b2i (s 6 ≠ -1), S0, ov g) := by
  obtain ⟨r0, r1, r2, rt, rm, rw', r6, r7⟩ := r
  rw [e_40]
  simp (disch := omega) only [↓K_daw hb, ↓G_daw hb, ↓al_D1 _ hb, ↓al_D2 _ hb, ↓al_D3 _ hb, ↓al_D4 _ hb, ↓al_D5 _ hb, ↓al_D6 _ hb, ↓al_D7 _ hb, ↓al_D8 _ hb, ↓al_D9 _ hb, ↓al_D10 _ hb, r6]
  unfold b2i
  (repeat' split) <;> first | rfl | contradiction
theorem c_41 (hb : isD b) (r : RD g b s) (hi : Iv N s) : MI X (d + 1) 41 [.inr (.inr b)] S0 (ov g) = some (neN s, S0, ov g) := by
  have hr := r
  obtain ⟨r0, r1, r2, rt, rm, rw', r6, r7⟩ := r
  obtain ⟨i0, i1, i2, i3, j2, j3, j4, j5, j6, j7, j8, j9, it, im, iw, ia, ih, i6, iu⟩ := hi
  rw [e_41]
  simp (disch := omega) only [↓K_daw hb, ↓G_daw hb, ↓al_D1 _ hb, ↓al_D2 _ hb, ↓al_D3 _ hb, ↓al_D4 _ hb, ↓al_D5 _ hb, ↓al_D6 _ hb, ↓al_D7 _ hb, ↓al_D8 _ hb, ↓al_D9 _ hb, ↓al_D10 _ hb, ↓oC_of (c_40 hb hr), ↓if_b2i]
  unfold neN
  by_cases z : s 6 = -1
  · rw [if_neg (by omega), if_pos z]
  · have z1 := iu z
    have z2 := r7 z
    rw [if_pos z, if_neg z]
    simp (disch := omega) only [↓K_daw hb, ↓G_daw hb, ↓al_D1 _ hb, ↓al_D2 _ hb, ↓al_D3 _ hb, ↓al_D4 _ hb, ↓al_D5 _ hb, ↓al_D6 _ hb, ↓al_D7 _ hb, ↓al_D8 _ hb, ↓al_D9 _ hb, ↓al_D10 _ hb, z2, w32_id]
theorem m_258_l (r : RM g s) (hi : Iv N s) (m : Int) (h1 : 0 ≤ m) (h2 : m < s 1) : ∀ (k : Nat) (o a : Int), o + k = s 1 → 0 ≤ o → 0 ≤ a → a + su (fun o => mn s m (4 + o)) k o < 2147483648 → EI X (d + 2) 258 4 [some (.inr (.inr 143)), some (.inl m), some (.inl a), some (.inl o)] [] S0 (ov g) = some (a + su (fun o => mn s m (4 + o)) k o, S0, ov g) := by
  obtain ⟨i0, i1, i2, i3, j2, j3, j4, j5, j6, j7, j8, j9, it, im, iw, ia, -⟩ := hi
  intro k
  induction k with
  | zero =>
    intro o a hm h0 h3 h4
    rw [e_258_4]
    simp (disch := omega) only [↓K_mod, ↓G_mod, ↓al_144 _, r 1, ↓oK_some, ↓oC_some, ↓if_pos, ↓if_neg, rd_wr_eq, rd_wr_ne, rd_wr_ix, w32_id, su, Int.add_zero]
  | succ k ih =>
    intro o a hm h0 h3 h4
    have h4' : a + (mn s m (4 + o) + su (fun o => mn s m (4 + o)) k (o + 1)) < 2147483648 := h4
    have q1 := iw m o h1 h2 h0 (by omega)
    have q2 := su_nn (fun o => mn s m (4 + o)) k (o + 1) (fun i c e => iw m i h1 h2 (by omega) (by omega))
    rw [e_258_4]
    simp (disch := omega) only [↓K_mod, ↓G_mod, ↓al_144 _, r 1, ↓oK_some, ↓oC_some, ↓if_pos, ↓if_neg, rd_wr_eq, rd_wr_ne, rd_wr_ix, w32_id, m_252 r, oC_some, ih, su, Int.add_assoc]
theorem m_258 (r : RM g s) (hi : Iv N s) (hN : N < 1000000) (m : Int) (h1 : 0 ≤ m) (h2 : m < s 1) : MI X (d + 2) 258 [.inr (.inr 143), .inl m] S0 (ov g) = some (woN s m, S0, ov g) := by
  have q := Iv_wo hi h1 h2
  have q2 : woN s m = su (fun o => mn s m (4 + o)) (s 1).toNat 0 := rfl
  have i2 := hi.2.2.1
  rw [e_258, m_258_l r hi m h1 h2 (s 1).toNat 0 0 (by omega) (by omega) (by omega) (by omega), Int.zero_add]
  rfl
theorem m_259_l (r : RM g s) (hi : Iv N s) (m : Int) (h1 : 0 ≤ m) (h2 : m < s 1) : ∀ (k : Nat) (o a : Int), o + k = s 1 → 0 ≤ o → 0 ≤ a → a + su (fun o => mn s o (4 + m)) k o < 2147483648 → EI X (d + 2) 259 4 [some (.inr (.inr 143)), some (.inl m), some (.inl a), some (.inl o)] [] S0 (ov g) = some (a + su (fun o => mn s o (4 + m)) k o, S0, ov g) := by
  obtain ⟨i0, i1, i2, i3, j2, j3, j4, j5, j6, j7, j8, j9, it, im, iw, ia, -⟩ := hi
  intro k
  induction k with
  | zero =>
    intro o a hm h0 h3 h4
    rw [e_259_4]
    simp (disch := omega) only [↓K_mod, ↓G_mod, ↓al_144 _, r 1, ↓oK_some, ↓oC_some, ↓if_pos, ↓if_neg, rd_wr_eq, rd_wr_ne, rd_wr_ix, w32_id, su, Int.add_zero]
  | succ k ih =>
    intro o a hm h0 h3 h4
    have h4' : a + (mn s o (4 + m) + su (fun o => mn s o (4 + m)) k (o + 1)) < 2147483648 := h4
    have q1 := iw o m h0 (by omega) h1 h2
    have q2 := su_nn (fun o => mn s o (4 + m)) k (o + 1) (fun i c e => iw i m (by omega) (by omega) h1 h2)
    rw [e_259_4]
    simp (disch := omega) only [↓K_mod, ↓G_mod, ↓al_144 _, r 1, ↓oK_some, ↓oC_some, ↓if_pos, ↓if_neg, rd_wr_eq, rd_wr_ne, rd_wr_ix, w32_id, m_252 r, oC_some, ih, su, Int.add_assoc]
theorem m_259 (r : RM g s) (hi : Iv N s) (hN : N < 1000000) (m : Int) (h1 : 0 ≤ m) (h2 : m < s 1) : MI X (d + 2) 259 [.inr (.inr 143), .inl m] S0 (ov g) = some (loN s m, S0, ov g) := by
  have q := Iv_lo hi h1 h2
  have q2 : loN s m = su (fun o => mn s o (4 + m)) (s 1).toNat 0 := rfl
  have i2 := hi.2.2.1
  rw [e_259, m_259_l r hi m h1 h2 (s 1).toNat 0 0 (by omega) (by omega) (by omega) (by omega), Int.zero_add]
  rfl
theorem m_260_l (r : RM g s) (hi : Iv N s) (hN : N < 1000000) : ∀ (k : Nat) (o a : Int), o + k = s 1 → 0 ≤ o → 0 ≤ a → a + su (fun o => woN s o) k o < 2147483648 → EI X (d + 3) 260 4 [some (.inr (.inr 143)), some (.inl a), some (.inl o)] [] S0 (ov g) = some (a + su (fun o => woN s o) k o, S0, ov g) := by
  have hi' := hi
  obtain ⟨i0, i1, i2, i3, j2, j3, j4, j5, j6, j7, j8, j9, it, im, iw, ia, -⟩ := hi
  intro k
  induction k with
  | zero =>
    intro o a hm h0 h3 h4
    rw [e_260_4]
    simp (disch := omega) only [↓K_mod, ↓G_mod, ↓al_144 _, r 1, ↓oK_some, ↓oC_some, ↓if_pos, ↓if_neg, rd_wr_eq, rd_wr_ne, rd_wr_ix, w32_id, su, Int.add_zero]
  | succ k ih =>
    intro o a hm h0 h3 h4
    have h4' : a + (woN s o + su (fun o => woN s o) k (o + 1)) < 2147483648 := h4
    have q1 := Iv_wo hi' h0 (by omega)
    have q2 := su_nn (fun o => woN s o) k (o + 1) (fun i c e => (Iv_wo hi' (by omega) (by omega)).1)
    rw [e_260_4]
    simp (disch := omega) only [↓K_mod, ↓G_mod, ↓al_144 _, r 1, ↓oK_some, ↓oC_some, ↓if_pos, ↓if_neg, rd_wr_eq, rd_wr_ne, rd_wr_ix, w32_id, ↓oC_of (m_258 r hi' hN _ _ _), ih, su, Int.add_assoc]
theorem m_260 (r : RM g s) (hi : Iv N s) (hN : N < 1000000) : MI X (d + 3) 260 [.inr (.inr 143)] S0 (ov g) = some (awN s, S0, ov g) := by
  have q := Iv_aw hi
  have q2 : awN s = su (fun o => woN s o) (s 1).toNat 0 := rfl
  have i2 := hi.2.2.1
  rw [e_260, m_260_l r hi hN (s 1).toNat 0 0 (by omega) (by omega) (by omega) (by omega), Int.zero_add]
  rfl
end
