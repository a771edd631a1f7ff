/-! needs, needsWith, gift, champion of both -/
/-- the first of the fewest: k from a on, m the fewest so far, z whose -/
def miF (f : Int → Int) : Nat → Int → Int → Int → Int
  | 0, _, _, z => z
  | k + 1, a, m, z => if f a ≠ -1 ∧ f a < m then miF f k (a + 1) (f a) a else miF f k (a + 1) m z
theorem miF_s (f : Int → Int) (k : Nat) (a m z : Int) : miF f (k + 1) a m z = (if f a ≠ -1 ∧ f a < m then miF f k (a + 1) (f a) a else miF f k (a + 1) m z) := rfl
def qNeeds (s : Int → Int) (m o : Int) : Int × Int := if 0 ≤ m ∧ m < s 1 ∧ 0 ≤ o ∧ o < s 1 ∧ m ≠ o then orN (ndN s m o (mn s m 3)) else (-1, 1)
def qNeedsW (s : Int → Int) (m o t : Int) : Int × Int := if (0 ≤ m ∧ m < s 1 ∧ 0 ≤ o ∧ o < s 1 ∧ m ≠ o) ∧ (t = 8 ∨ (0 ≤ t ∧ t < s 0)) then orN (ndN s m o (if t = 8 then -1 else t)) else (-1, 1)
def qGift (s : Int → Int) (m o : Int) : Int × Int := if 0 ≤ m ∧ m < s 1 ∧ 0 ≤ o ∧ o < s 1 ∧ m ≠ o then orN (miF (fun t => ndN s m o t) (s 0).toNat 0 61 (-1)) else (-1, 1)
def chN (s : Int → Int) (o m : Int) : Int := if m = o then -1 else ndN s m o (mn s m 3)
theorem chN_e (s : Int → Int) (o : Int) : chN s o o = -1 := if_pos rfl
theorem chN_n (s : Int → Int) {o m : Int} (h : m ≠ o) : chN s o m = ndN s m o (mn s m 3) := if_neg h
def qChamp (s : Int → Int) (o : Int) : Int × Int := if 0 ≤ o ∧ o < s 1 then orN (miF (chN s o) (s 1).toNat 0 61 (-1)) else (-1, 1)
section
variable {X : Xs} {d : Nat} {g : Mem} {s : Int → Int} {b N : Int}
theorem ndN_rng (s : Int → Int) (m o t : Int) : -1 ≤ ndN s m o t ∧ ndN s m o t ≤ 60 := ndF_rng _ _ _ 60 _ 0 (Int.le_refl 0) rfl
theorem orF_lt {x M m : Int} (hx : -1 ≤ x) (hx6 : x ≤ 60) (h : (m = 61 ∧ M = 1000000) ∨ (M = m ∧ m ≤ 60)) : orF x < M ↔ (x ≠ -1 ∧ x < m) := by
  unfold orF
  split <;> omega
theorem AnM_never {g1 : Mem} (h : FN g g1) {x : Int} (hx : -1 ≤ x) (hx6 : x ≤ 60) : AnM g (orN x) (oC (MI X (d + 1) 302 [.inr (.inr 143), .inl (orF x)] S0 (ov g1)) fun r S m => some (r, S, m)) := by
  rw [e_302]
  unfold orF orN
  by_cases e : x = -1
  · rw [if_pos e, if_pos e, if_neg (by decide), K_mod, oC_of (m_201 6), oC_some]
    exact Ok_some ⟨rfl, rd_wr_eq _ _ _ _, FN_tr h (FN_st _ _)⟩
  · rw [if_neg e, if_neg e, if_pos (show x < 1000000 by omega), K_mod, oC_of (m_202 x), oC_some]
    exact Ok_some ⟨rfl, rd_wr_eq _ _ _ _, FN_tr h (FN_st _ _)⟩
theorem asM_t {t : Int} (h : t ≠ -1) : asM t = t := if_neg h
theorem c_161 (r : RD g 19 s) (hi : Iv N s) (m o : Int) : AnC g (qNeeds s m o) (MI X (d + 2) 161 [.inr (.inr 1), .inl m, .inl o] S0 (ov g)) := by
  have hb := isD19
  have hr := r
  obtain ⟨r0, r1, r2, rt, rm, rw', r6, r7⟩ := r
  obtain ⟨i0, i1, i2, i3, -, -, -, -, -, -, -, -, -, im, -⟩ := id hi
  rw [e_161]
  simp only [↓K_top, ↓G_top, ↓P_top, ↓K_daw hb, ↓oC_of (c_24 hb hr _ _), ↓if_b2i]
  unfold qNeeds
  by_cases ht : 0 ≤ m ∧ m < s 1 ∧ 0 ≤ o ∧ o < s 1 ∧ m ≠ o
  · rw [if_pos ht, if_pos ht]
    obtain ⟨h1, h2, h3, h4, -⟩ := ht
    have m1 := im m h1 h2
    have q := c_55 (X := X) (d := d) hb hr hi m o (mn s m 3) h1 h2 h3 h4 (by omega) (by omega)
    simp (disch := omega) only [↓K_top, ↓G_top, ↓P_top, ↓K_daw hb, ↓G_daw hb, ↓al_D1 _ hb, ↓al_D2 _ hb, ↓al_D3 _ hb, ↓al_D4 _ hb, ↓al_D5 _ hb, ↓al_D6 _ hb, ↓al_D7 _ hb, ↓al_D8 _ hb, ↓al_D9 _ hb, ↓al_D10 _ hb, rm, ↓oC_of q]
    exact AnC_orN (FC_rf g) _
  · rw [if_neg ht, if_neg ht]
    exact AnC_no (FC_rf g) 1
theorem m_301 (r : RM g s) (hi : Iv N s) (m o : Int) (h1 : 0 ≤ m) (h2 : m < s 1) (h3 : 0 ≤ o) (h4 : o < s 1) : MI X (d + 4) 301 [.inr (.inr 143), .inl m, .inl o] S0 (ov g) = some (orF (ndN s m o (mn s m 3)), S0, ov g) := by
  obtain ⟨i0, i1, i2, i3, -, -, -, -, -, -, -, -, -, im, -⟩ := id hi
  have m1 := im m h1 h2
  have q := m_300 (X := X) (d := d) r hi m o (mn s m 3) h1 h2 h3 h4 (by omega) (by omega)
  have q3 := m_252 (X := X) (d := d + 2) r m 3 h1 (by omega) (by omega) (by omega)
  rw [e_301]
  simp only [↓K_mod, ↓oC_of q3]
  unfold asM at q
  by_cases e : mn s m 3 = -1
  · rw [if_pos e] at q ⊢
    rw [oC_of q]
  · rw [if_neg e] at q ⊢
    rw [oC_of q]
theorem m_303 (r : RM g s) (hi : Iv N s) (m o : Int) : AnM g (qNeeds s m o) (MI X (d + 5) 303 [.inr (.inr 143), .inl m, .inl o] S0 (ov g)) := by
  rw [e_303]
  simp only [↓K_mod, ↓oC_of (m_248 r _ _), ↓if_b2i]
  unfold qNeeds
  by_cases ht : 0 ≤ m ∧ m < s 1 ∧ 0 ≤ o ∧ o < s 1 ∧ m ≠ o
  · rw [if_pos ht, if_pos ht]
    obtain ⟨h1, h2, h3, h4, -⟩ := ht
    simp only [↓K_mod, ↓oC_of (m_301 r hi m o h1 h2 h3 h4)]
    exact AnM_never (FN_rf g) (ndN_rng s m o _).1 (ndN_rng s m o _).2
  · rw [if_neg ht, if_neg ht]
    exact AnM_no (FN_rf g) 1
theorem c_189 (r : RD g 19 s) (t : Int) : MI X (d + 1) 189 [.inr (.inr 1), .inl t] S0 (ov g) = some (b2i (t = 8 ∨ (0 ≤ t ∧ t < s 0)), S0, ov g) := by
  rw [e_189]
  simp only [↓K_top, ↓G_top, ↓P_top, ↓K_daw isD19, ↓oC_of (c_22 isD19 r _), ↓if_b2i]
  unfold b2i
  (repeat' split) <;> first | rfl | (exfalso; omega)
theorem c_190 (t : Int) (S : Sh) (h : Mem) : MI X d 190 [.inl t] S h = some (if t = 8 then -1 else t, S, h) := by
  rw [e_190]
  split <;> rfl
theorem c_162 (r : RD g 19 s) (hi : Iv N s) (m o t : Int) : AnC g (qNeedsW s m o t) (MI X (d + 2) 162 [.inr (.inr 1), .inl m, .inl o, .inl t] S0 (ov g)) := by
  have i1 := hi.2.1
  rw [e_162]
  simp only [↓K_top, ↓G_top, ↓P_top, ↓K_daw isD19, ↓oC_of (c_24 isD19 r _ _), ↓oC_of (c_189 r _), ↓oC_of (c_190 _ _ _), ↓if_b2i]
  unfold qNeedsW
  by_cases ht : 0 ≤ m ∧ m < s 1 ∧ 0 ≤ o ∧ o < s 1 ∧ m ≠ o
  case neg =>
    rw [if_neg ht, if_neg (fun z => ht z.1)]
    exact AnC_no (FC_rf g) 1
  rw [if_pos ht]
  by_cases h8 : t = 8 ∨ (0 ≤ t ∧ t < s 0)
  case neg =>
    rw [if_neg h8, if_neg (fun z => h8 z.2)]
    exact AnC_no (FC_rf g) 1
  rw [if_pos h8, if_pos ⟨ht, h8⟩]
  obtain ⟨h1, h2, h3, h4, -⟩ := ht
  have i0 := hi.1
  have q := c_55 (X := X) (d := d) isD19 r hi m o (if t = 8 then -1 else t) h1 h2 h3 h4 (by split <;> omega) (by split <;> omega)
  simp only [↓K_top, ↓G_top, ↓P_top, ↓oC_of q]
  exact AnC_orN (FC_rf g) _
theorem m_304 (r : RM g s) (hi : Iv N s) (m o t : Int) : AnM g (qNeedsW s m o t) (MI X (d + 5) 304 [.inr (.inr 143), .inl m, .inl o, .inl t] S0 (ov g)) := by
  have i1 := hi.2.1
  rw [e_304]
  simp only [↓K_mod, ↓oC_of (m_248 r _ _), ↓if_b2i]
  unfold qNeedsW
  by_cases ht : 0 ≤ m ∧ m < s 1 ∧ 0 ≤ o ∧ o < s 1 ∧ m ≠ o
  case neg =>
    rw [if_neg ht, if_neg (fun z => ht z.1)]
    exact AnM_no (FN_rf g) 1
  rw [if_pos ht]
  have ht' := ht
  obtain ⟨h1, h2, h3, h4, -⟩ := ht
  by_cases h8 : t = 8
  · have q := m_300 (X := X) (d := d + 1) r hi m o (-1) h1 h2 h3 h4 (by omega) (by have := hi.1; omega)
    rw [if_pos h8, if_pos ⟨ht', Or.inl h8⟩, if_pos h8, h8]
    rw [show asM (-1) = 8 from if_pos rfl] at q
    simp only [↓K_mod, ↓oC_of q]
    exact AnM_never (FN_rf g) (ndN_rng s m o _).1 (ndN_rng s m o _).2
  rw [show ∀ (x y : Option Rs), (if t = 8 then x else y) = y from fun _ _ => if_neg h8]
  simp only [↓K_mod, ↓oC_of (m_246 r _), ↓if_b2i]
  by_cases h9 : 0 ≤ t ∧ t < s 0
  · have q := m_300 (X := X) (d := d + 1) r hi m o t h1 h2 h3 h4 (by omega) h9.2
    rw [asM_t (by omega)] at q
    rw [if_pos h9, if_pos ⟨ht', Or.inr h9⟩, if_neg h8]
    simp only [↓K_mod, ↓oC_of q]
    exact AnM_never (FN_rf g) (ndN_rng s m o _).1 (ndN_rng s m o _).2
  · rw [if_neg h9, if_neg (fun z => by omega)]
    exact AnM_no (FN_rf g) 1
theorem c_56_l (hb : isD b) (r : RD g b s) (hi : Iv N s) (m o : Int) (h1 : 0 ≤ m) (h2 : m < s 1) (h3 : 0 ≤ o) (h4 : o < s 1) : ∀ (k : Nat) (t x z : Int), t + k = s 0 → 0 ≤ t → EI X (d + 2) 56 9 [some (.inr (.inr b)), some (.inl m), some (.inl o), some (.inl z), some (.inl x), some (.inl t), none] [] S0 (ov g) = some (miF (fun t => ndN s m o t) k t x z, S0, ov g) := by
  have hr := r
  obtain ⟨r0, r1, -⟩ := r
  have i1 := hi.2.1
  intro k
  induction k with
  | zero =>
    intro t x z hk h0
    rw [e_56_9]
    simp (disch := omega) only [↓K_daw hb, ↓G_daw hb, r0, ↓if_neg]
    rfl
  | succ k ih =>
    intro t x z hk h0
    rw [e_56_9]
    have q := c_55 (X := X) (d := d) hb hr hi m o t h1 h2 h3 h4 (by omega) (by omega)
    simp (disch := omega) only [↓K_daw hb, ↓G_daw hb, r0, ↓if_pos, ↓oC_of q, w32_id, ih]
    simp only [miF_s]
    by_cases e : ndN s m o t = -1
    · rw [if_pos e, if_neg (fun z => z.1 e)]
    · rw [if_neg e]
      by_cases l : ndN s m o t < x
      · rw [if_pos l, if_pos ⟨e, l⟩]
      · rw [if_neg l, if_neg (fun z => l z.2)]
theorem c_163 (r : RD g 19 s) (hi : Iv N s) (m o : Int) : AnC g (qGift s m o) (MI X (d + 3) 163 [.inr (.inr 1), .inl m, .inl o] S0 (ov g)) := by
  have i0 := hi.1
  rw [e_163]
  simp only [↓K_top, ↓G_top, ↓P_top, ↓K_daw isD19, ↓oC_of (c_24 isD19 r _ _), ↓if_b2i]
  unfold qGift
  by_cases ht : 0 ≤ m ∧ m < s 1 ∧ 0 ≤ o ∧ o < s 1 ∧ m ≠ o
  · rw [if_pos ht, if_pos ht]
    obtain ⟨h1, h2, h3, h4, -⟩ := ht
    have q : MI X (d + 2) 56 [.inr (.inr 19), .inl m, .inl o] S0 (ov g) = some (miF (fun t => ndN s m o t) (s 0).toNat 0 61 (-1), S0, ov g) := by
      rw [e_56, c_56_l isD19 r hi m o h1 h2 h3 h4 (s 0).toNat 0 61 (-1) (by omega) (by omega)]
    simp only [↓K_top, ↓G_top, ↓P_top, ↓oC_of q]
    exact AnC_orN (FC_rf g) _
  · rw [if_neg ht, if_neg ht]
    exact AnC_no (FC_rf g) 1
theorem m_305_l (r : RM g s) (hi : Iv N s) (m o : Int) (h1 : 0 ≤ m) (h2 : m < s 1) (h3 : 0 ≤ o) (h4 : o < s 1) : ∀ (k : Nat) (t x M z : Int), t + k = s 0 → 0 ≤ t → ((x = 61 ∧ M = 1000000) ∨ (M = x ∧ x ≤ 60)) → AnM g (orN (miF (fun t => ndN s m o t) k t x z)) (EI X (d + 4) 305 25 [some (.inr (.inr 143)), some (.inl m), some (.inl o), some (.inl z), some (.inl M), some (.inl t), none] [] S0 (ov g)) := by
  have i1 := hi.2.1
  intro k
  induction k with
  | zero =>
    intro t x M z hk h0 hx
    rw [e_305_25]
    simp (disch := omega) only [↓K_mod, ↓G_mod, ↓al_144 _, r 0, ↓if_neg]
    exact AnM_orN (FN_rf g) _
  | succ k ih =>
    intro t x M z hk h0 hx
    rw [e_305_25]
    have q := m_300 (X := X) (d := d) r hi m o t h1 h2 h3 h4 (by omega) (by omega)
    rw [asM_t (by omega)] at q
    have nr := ndN_rng s m o t
    have cx := orF_lt nr.1 nr.2 hx
    simp (disch := omega) only [↓K_mod, ↓G_mod, ↓al_144 _, r 0, ↓if_pos, ↓oC_of q, w32_id]
    simp only [miF_s]
    by_cases l : orF (ndN s m o t) < M
    · have l2 := cx.mp l
      have e : orF (ndN s m o t) = ndN s m o t := if_neg l2.1
      rw [if_pos l, if_pos l2, e]
      exact ih _ _ _ _ (by omega) (by omega) (Or.inr ⟨rfl, nr.2⟩)
    · rw [if_neg l, if_neg (fun z => l (cx.mpr z))]
      exact ih _ _ _ _ (by omega) (by omega) hx
theorem m_305 (r : RM g s) (hi : Iv N s) (m o : Int) : AnM g (qGift s m o) (MI X (d + 4) 305 [.inr (.inr 143), .inl m, .inl o] S0 (ov g)) := by
  have i0 := hi.1
  rw [e_305]
  simp only [↓K_mod, ↓oC_of (m_248 r _ _), ↓if_b2i]
  unfold qGift
  by_cases ht : 0 ≤ m ∧ m < s 1 ∧ 0 ≤ o ∧ o < s 1 ∧ m ≠ o
  · rw [if_pos ht, if_pos ht]
    obtain ⟨h1, h2, h3, h4, -⟩ := ht
    exact m_305_l r hi m o h1 h2 h3 h4 (s 0).toNat 0 61 1000000 (-1) (by omega) (by omega) (Or.inl ⟨rfl, rfl⟩)
  · rw [if_neg ht, if_neg ht]
    exact AnM_no (FN_rf g) 1
theorem c_57_l (hb : isD b) (r : RD g b s) (hi : Iv N s) (o : Int) (h3 : 0 ≤ o) (h4 : o < s 1) : ∀ (k : Nat) (t x z : Int), t + k = s 1 → 0 ≤ t → EI X (d + 2) 57 8 [some (.inr (.inr b)), some (.inl o), some (.inl z), some (.inl x), some (.inl t), none] [] S0 (ov g) = some (miF (chN s o) k t x z, S0, ov g) := by
  have hr := r
  obtain ⟨r0, r1, r2, rt, rm, -⟩ := r
  obtain ⟨i0, i1, i2, i3, -, -, -, -, -, -, -, -, -, im, -⟩ := id hi
  intro k
  induction k with
  | zero =>
    intro t x z hk h0
    rw [e_57_8]
    simp (disch := omega) only [↓K_daw hb, ↓G_daw hb, r1, ↓if_neg]
    rfl
  | succ k ih =>
    intro t x z hk h0
    rw [e_57_8]
    have m1 := im t h0 (by omega)
    simp only [miF_s]
    by_cases eo : t = o
    · simp (disch := omega) only [↓K_daw hb, ↓G_daw hb, r1, ↓if_pos, w32_id, ih, ↓reduceIte]
      rw [eo, chN_e, if_neg (fun z => z.1 rfl)]
    · have q := c_55 (X := X) (d := d) hb hr hi t o (mn s t 3) h0 (by omega) h3 h4 (by omega) (by omega)
      simp (disch := omega) only [↓K_daw hb, ↓G_daw hb, ↓al_D1 _ hb, ↓al_D2 _ hb, ↓al_D3 _ hb, ↓al_D4 _ hb, ↓al_D5 _ hb, ↓al_D6 _ hb, ↓al_D7 _ hb, ↓al_D8 _ hb, ↓al_D9 _ hb, ↓al_D10 _ hb, r1, rm, ↓if_pos, ↓if_neg, ↓oC_of q, w32_id, ih]
      rw [chN_n s eo]
      by_cases e : ndN s t o (mn s t 3) = -1
      · rw [if_pos e, if_neg (fun z => z.1 e)]
      · rw [if_neg e]
        by_cases l : ndN s t o (mn s t 3) < x
        · rw [if_pos l, if_pos ⟨e, l⟩]
        · rw [if_neg l, if_neg (fun z => l z.2)]
theorem c_169 (r : RD g 19 s) (hi : Iv N s) (o : Int) : AnC g (qChamp s o) (MI X (d + 3) 169 [.inr (.inr 1), .inl o] S0 (ov g)) := by
  have i0 := hi.2.2.1
  rw [e_169]
  simp only [↓K_top, ↓G_top, ↓P_top, ↓K_daw isD19, ↓oC_of (c_23 isD19 r _), ↓if_b2i]
  unfold qChamp
  by_cases ht : 0 ≤ o ∧ o < s 1
  · rw [if_pos ht, if_pos ht]
    have q : MI X (d + 2) 57 [.inr (.inr 19), .inl o] S0 (ov g) = some (miF (chN s o) (s 1).toNat 0 61 (-1), S0, ov g) := by
      rw [e_57, c_57_l isD19 r hi o ht.1 ht.2 (s 1).toNat 0 61 (-1) (by omega) (by omega)]
    simp only [↓K_top, ↓G_top, ↓P_top, ↓oC_of q]
    exact AnC_orN (FC_rf g) _
  · rw [if_neg ht, if_neg ht]
    exact AnC_no (FC_rf g) 1
theorem m_315_l (r : RM g s) (hi : Iv N s) (o : Int) (h3 : 0 ≤ o) (h4 : o < s 1) : ∀ (k : Nat) (t x M z : Int), t + k = s 1 → 0 ≤ t → ((x = 61 ∧ M = 1000000) ∨ (M = x ∧ x ≤ 60)) → AnM g (orN (miF (chN s o) k t x z)) (EI X (d + 5) 315 23 [some (.inr (.inr 143)), some (.inl o), some (.inl z), some (.inl M), some (.inl t)] [] S0 (ov g)) := by
  have i3 := hi.2.2.2.1
  intro k
  induction k with
  | zero =>
    intro t x M z hk h0 hx
    rw [e_315_23]
    simp (disch := omega) only [↓K_mod, ↓G_mod, ↓al_144 _, r 1, ↓if_neg]
    exact AnM_orN (FN_rf g) _
  | succ k ih =>
    intro t x M z hk h0 hx
    rw [e_315_23]
    simp only [miF_s]
    by_cases eo : t = o
    · simp (disch := omega) only [↓K_mod, ↓G_mod, ↓al_144 _, r 1, ↓if_pos, w32_id]
      rw [show chN s o t = -1 by rw [eo]; exact chN_e s o, if_neg (fun z => z.1 rfl)]
      exact ih _ _ _ _ (by omega) (by omega) hx
    · have q := m_301 (X := X) (d := d) r hi t o h0 (by omega) h3 h4
      have nr := ndN_rng s t o (mn s t 3)
      have cx := orF_lt nr.1 nr.2 hx
      simp (disch := omega) only [↓K_mod, ↓G_mod, ↓al_144 _, r 1, ↓if_pos, ↓if_neg, ↓oC_of q, w32_id]
      rw [chN_n s eo]
      by_cases l : orF (ndN s t o (mn s t 3)) < M
      · have l2 := cx.mp l
        have e : orF (ndN s t o (mn s t 3)) = ndN s t o (mn s t 3) := if_neg l2.1
        rw [if_pos l, if_pos l2, e]
        exact ih _ _ _ _ (by omega) (by omega) (Or.inr ⟨rfl, nr.2⟩)
      · rw [if_neg l, if_neg (fun z => l (cx.mpr z))]
        exact ih _ _ _ _ (by omega) (by omega) hx
theorem m_315 (r : RM g s) (hi : Iv N s) (o : Int) : AnM g (qChamp s o) (MI X (d + 5) 315 [.inr (.inr 143), .inl o] S0 (ov g)) := by
  have i0 := hi.2.2.1
  rw [e_315]
  simp only [↓K_mod, ↓oC_of (m_247 r _), ↓if_b2i]
  unfold qChamp
  by_cases ht : 0 ≤ o ∧ o < s 1
  · rw [if_pos ht, if_pos ht]
    exact m_315_l r hi o ht.1 ht.2 (s 1).toNat 0 61 1000000 (-1) (by omega) (by omega) (Or.inl ⟨rfl, rfl⟩)
  · rw [if_neg ht, if_neg ht]
    exact AnM_no (FN_rf g) 1
end
