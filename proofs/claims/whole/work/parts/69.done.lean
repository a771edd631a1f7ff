/-! WHAT IS DONE: meet, act, part, give, mend, heal, train, rule; both sides -/
/-- nothing but scratch, the STATUS, the DAWN -/
def FCD (g g' : Mem) : Prop := ∀ c i, 0 ≤ c → 0 ≤ i → ¬ ScC c → (c ≠ 1 ∨ i ≠ 15) → (c < 19 ∨ 29 < c) → rd g' c i = rd g c i
def FND (g g' : Mem) : Prop := ∀ c i, 0 ≤ c → 0 ≤ i → ¬ ScM c i → (c ≠ 143 ∨ i ≠ 2) → (c ≠ 144 ∨ 104 ≤ i) → rd g' c i = rd g c i
theorem FCD_tr {g g1 g2 : Mem} (h1 : FCD g g1) (h2 : FCD g1 g2) : FCD g g2 := fun c i a b e f k => (h2 c i a b e f k).trans (h1 c i a b e f k)
theorem FND_tr {g g1 g2 : Mem} (h1 : FND g g1) (h2 : FND g1 g2) : FND g g2 := fun c i a b e f k => (h2 c i a b e f k).trans (h1 c i a b e f k)
theorem FCD_rf (g : Mem) : FCD g g := fun _ _ _ _ _ _ _ => rfl
theorem FND_rf (g : Mem) : FND g g := fun _ _ _ _ _ _ _ => rfl
theorem FCD_st (g : Mem) (x : Int) : FCD g (wr g 1 15 x) := fun c i a b e f _ => FC_st g x c i a b e f
theorem FND_st (g : Mem) (x : Int) : FND g (wr g 143 2 x) := fun c i a b e f _ => FN_st g x c i a b e f
theorem FCD_wr (g : Mem) {c : Int} (i x : Int) (h : 19 ≤ c ∧ c ≤ 29) : FCD g (wr g c i x) := fun a j h0 h1 e f k => rd_wr_ne g i j x (by omega) h0 (by omega)
theorem FND_FM {g g1 : Mem} (h : FM g g1) : FND g g1 := fun c i a b e f k => h c i a b k
theorem FCD_FD {g g1 : Mem} (h : FD 19 g g1) : FCD g g1 := fun c i a b e f k => h c i a b (by unfold ScC at e; omega) (by omega) (by omega) (by omega) (by omega)
/-- an answer, its STATUS and the DAWN behind it -/
def AnCD (g : Mem) (q : Int × Int) (s' : Int → Int) (o : Option Rs) : Prop := Ok (fun v g' => v = q.1 ∧ rd g' 1 15 = q.2 ∧ RD g' 19 s' ∧ FCD g g') o
def AnMD (g : Mem) (q : Int × Int) (s' : Int → Int) (o : Option Rs) : Prop := Ok (fun v g' => v = q.1 ∧ rd g' 143 2 = q.2 ∧ RM g' s' ∧ FND g g') o
theorem RD_st {g : Mem} {b : Int} {s : Int → Int} (hb : isD b) (r : RD g b s) (x : Int) : RD (wr g 1 15 x) b s := by
  have := isD_rng hb
  exact RD_fr r (fun c i y z => rd_wr_ne g 15 i x (by omega) (by omega) (by omega))
theorem RM_st {g : Mem} {s : Int → Int} (r : RM g s) (x : Int) : RM (wr g 143 2 x) s := RM_wo r _ _ (by omega) (by omega)
section
variable {X : Xs} {d : Nat} {g g1 : Mem} {s s' : Int → Int} {N : Int}
theorem CD_tell (r : RD g1 19 s') (h : FCD g g1) (v : Int) : AnCD g (v, 0) s' (oC (MI X d 181 [.inr (.inr 1), .inl v] S0 (ov g1)) fun r S m => some (r, S, m)) := by
  rw [oC_of (c_181 v)]
  exact Ok_some ⟨rfl, rd_wr_eq _ _ _ _, RD_st isD19 r _, FCD_tr h (FCD_st _ _)⟩
theorem CD_no (r : RD g1 19 s') (h : FCD g g1) (v : Int) : AnCD g (-1, v) s' (oC (MI X d 183 [.inr (.inr 1), .inl v] S0 (ov g1)) fun r S m => some (r, S, m)) := by
  rw [oC_of (c_183 v)]
  exact Ok_some ⟨rfl, rd_wr_eq _ _ _ _, RD_st isD19 r _, FCD_tr h (FCD_st _ _)⟩
theorem CD_yes (r : RD g1 19 s') (h : FCD g g1) : AnCD g (1, 0) s' (oC (MI X d 184 [.inr (.inr 1)] S0 (ov g1)) fun r S m => if r = 0 ∨ r = 1 then some (r, S, m) else none) := by
  rw [oC_of c_184, if_pos (Or.inr rfl)]
  exact Ok_some ⟨rfl, rd_wr_eq _ _ _ _, RD_st isD19 r _, FCD_tr h (FCD_st _ _)⟩
theorem CD_deny (r : RD g1 19 s') (h : FCD g g1) (v : Int) : AnCD g (0, v) s' (oC (MI X d 185 [.inr (.inr 1), .inl v] S0 (ov g1)) fun r S m => if r = 0 ∨ r = 1 then some (r, S, m) else none) := by
  rw [oC_of (c_185 v), if_pos (Or.inl rfl)]
  exact Ok_some ⟨rfl, rd_wr_eq _ _ _ _, RD_st isD19 r _, FCD_tr h (FCD_st _ _)⟩
theorem MD_tell (r : RM g1 s') (h : FND g g1) (v : Int) : AnMD g (v, 0) s' (oC (MI X d 202 [.inr (.inr 143), .inl v] S0 (ov g1)) fun r S m => some (r, S, m)) := by
  rw [oC_of (m_202 v)]
  exact Ok_some ⟨rfl, rd_wr_eq _ _ _ _, RM_st r _, FND_tr h (FND_st _ _)⟩
theorem MD_no (r : RM g1 s') (h : FND g g1) (v : Int) : AnMD g (-1, v) s' (oC (MI X d 201 [.inr (.inr 143), .inl v] S0 (ov g1)) fun r S m => some (r, S, m)) := by
  rw [oC_of (m_201 v)]
  exact Ok_some ⟨rfl, rd_wr_eq _ _ _ _, RM_st r _, FND_tr h (FND_st _ _)⟩
theorem MD_is (r : RM g1 s') (h : FND g g1) (v : Int) : AnMD g (b2i (v = 0), v) s' (oC (MI X d 200 [.inr (.inr 143), .inl v] S0 (ov g1)) fun r S m => if r = 0 ∨ r = 1 then some (r, S, m) else none) := by
  rw [oC_of (m_200 v), if_pos (by unfold b2i; split <;> simp)]
  exact Ok_some ⟨rfl, rd_wr_eq _ _ _ _, RM_st r _, FND_tr h (FND_st _ _)⟩
end
abbrev two (s : Int → Int) (m o : Int) : Prop := 0 ≤ m ∧ m < s 1 ∧ 0 ≤ o ∧ o < s 1 ∧ m ≠ o
/-- meet: an answer, its STATUS; the DAWN behind it -/
def qMeet (s : Int → Int) (m o : Int) : Int × Int := if two s m o then (if mn s m 1 = 0 ∨ mn s o 1 = 0 then (-1, 7) else (s 2, 0)) else (-1, 1)
def uMeet (s : Int → Int) (m o : Int) : Int → Int := if two s m o ∧ ¬ (mn s m 1 = 0 ∨ mn s o 1 = 0) then meS s m o else s
theorem me_all (s : Int → Int) (m o : Int) : meS s m o 6 = m ∧ meS s m o 7 = o ∧ meS s m o 8 = 0 ∧ meS s m o 9 = s 2 ∧ meS s m o 10 = 0 ∧ (∀ j, j < 6 ∨ 10 < j → meS s m o j = s j) := by
  unfold meS
  refine ⟨?_, ?_, ?_, ?_, ?_, fun j hj => ?_⟩ <;> simp (disch := omega) only [us_ne, us_eq]
theorem neN_me (s : Int → Int) (m o : Int) (h : 0 ≤ m) : neN (meS s m o) = s 2 := by
  obtain ⟨a, b, c, d, e, f⟩ := me_all s m o
  unfold neN
  rw [a, c, d, if_neg (by omega), Int.sub_zero]
section
variable {X : Xs} {d : Nat} {g : Mem} {s : Int → Int} {b N : Int}
theorem Iv_me (hi : Iv N s) (hN : 0 ≤ N) {m o : Int} (h : two s m o) (l : ¬ (mn s m 1 = 0 ∨ mn s o 1 = 0)) : Iv N (meS s m o) := by
  obtain ⟨a, b, c, d, e, f⟩ := me_all s m o
  obtain ⟨i0, i1, i2, i3, j2, j3, j4, j5, j6, j7, j8, j9, it, im, -⟩ := id hi
  obtain ⟨h1, h2, h3, h4, h5⟩ := h
  have q1 := im m h1 h2
  have q2 := im o h3 h4
  refine Iv_du hi (fun j hj => f j (by omega)) ?_ (by omega) (fun _ => ?_)
  · rw [f 3 (by omega), f 4 (by omega), f 5 (by omega)]; omega
  · rw [a, b, c, d, e]; omega
theorem c_42 (hb : isD b) (r : RD g b s) (hi : Iv N s) (m o : Int) (h1 : 0 ≤ m) (h2 : m < s 1) (h3 : 0 ≤ o) (h4 : o < s 1) : Ok (fun v g' => v = b2i (m ≠ o ∧ ¬ (mn s m 1 = 0 ∨ mn s o 1 = 0)) ∧ RD g' b (if m ≠ o ∧ ¬ (mn s m 1 = 0 ∨ mn s o 1 = 0) then meS s m o else s) ∧ (∀ c i, 0 ≤ c → 0 ≤ i → (c ≠ b ∨ i < 14 ∨ 18 < i) → rd g' c i = rd g c i)) (MI X d 42 [.inr (.inr b), .inl m, .inl o] S0 (ov g)) := by
  have hb2 := isD_rng hb
  have hr := r
  obtain ⟨r0, r1, r2, rt, rm, rw', r6, r7⟩ := r
  have i3 := hi.2.2.2.1
  rw [e_42]
  by_cases e : m = o
  · rw [if_pos e]
    refine Ok_some ⟨?_, ?_, fun _ _ _ _ _ => rfl⟩
    · unfold b2i; rw [if_neg (fun z => z.1 e)]
    · rw [if_neg (fun z => z.1 e)]; exact hr
  rw [if_neg e]
  simp (disch := omega) only [↓K_daw hb, ↓G_daw hb, ↓al_D1 _ hb, ↓al_D2 _ hb, ↓al_D3 _ hb, ↓al_D4 _ hb, ↓al_D5 _ hb, ↓al_D6 _ hb, ↓al_D7 _ hb, ↓al_D8 _ hb, ↓al_D9 _ hb, ↓al_D10 _ hb, rm]
  by_cases l1 : mn s m 1 = 0
  · rw [if_pos l1]
    refine Ok_some ⟨?_, ?_, fun _ _ _ _ _ => rfl⟩
    · unfold b2i; rw [if_neg (fun z => z.2 (Or.inl l1))]
    · rw [if_neg (fun z => z.2 (Or.inl l1))]; exact hr
  rw [if_neg l1]
  by_cases l2 : mn s o 1 = 0
  · rw [if_pos l2]
    refine Ok_some ⟨?_, ?_, fun _ _ _ _ _ => rfl⟩
    · unfold b2i; rw [if_neg (fun z => z.2 (Or.inr l2))]
    · rw [if_neg (fun z => z.2 (Or.inr l2))]; exact hr
  rw [if_neg l2]
  have cc : m ≠ o ∧ ¬ (mn s m 1 = 0 ∨ mn s o 1 = 0) := ⟨e, by omega⟩
  have e2 : rd g (b + 1) 0 = s 2 := r2 0 (by omega) (by omega)
  simp (disch := omega) only [↓K_daw hb, ↓G_daw hb, ↓P_daw hb, ↓al_D1 _ hb, ↓as_D1 hb, ↓al_D2 _ hb, ↓as_D2 hb, ↓al_D3 _ hb, ↓as_D3 hb, ↓al_D4 _ hb, ↓as_D4 hb, ↓al_D5 _ hb, ↓as_D5 hb, ↓al_D6 _ hb, ↓as_D6 hb, ↓al_D7 _ hb, ↓as_D7 hb, ↓al_D8 _ hb, ↓as_D8 hb, ↓al_D9 _ hb, ↓as_D9 hb, ↓al_D10 _ hb, ↓as_D10 hb, ↓al_D11 hb, ↓as_D11 hb, ↓al_D12 hb, ↓as_D12 hb, rd_wr_ne, e2]
  refine Ok_some ⟨?_, ?_, ?_⟩
  · unfold b2i; rw [if_pos cc]
  · rw [if_pos cc]
    obtain ⟨a, b', c, d', e', f⟩ := me_all s m o
    exact RD_du hb hr f a.symm (fun _ => ⟨b'.symm, c.symm, d'.symm, e'.symm⟩)
  · intro c i a0 b0 h
    rcases h with h | h
    · simp (disch := omega) only [rd_wr_ne]
    · by_cases z : c = b
      · subst z; simp (disch := omega) only [rd_wr_ix]
      · simp (disch := omega) only [rd_wr_ne]
theorem c_146 (r : RD g 19 s) (hi : Iv N s) (hN : 0 ≤ N) (m o : Int) : AnCD g (qMeet s m o) (uMeet s m o) (MI X (d + 3) 146 [.inr (.inr 1), .inl m, .inl o] S0 (ov g)) := by
  rw [e_146]
  simp only [↓K_top, ↓G_top, ↓P_top, ↓K_daw isD19, ↓oC_of (c_24 isD19 r _ _), ↓if_b2i]
  unfold qMeet uMeet
  by_cases ht : two s m o
  case neg =>
    rw [if_neg ht, if_neg ht, if_neg (fun z => ht z.1)]
    exact CD_no r (FCD_rf g) 1
  rw [if_pos ht, if_pos ht]
  obtain ⟨h1, h2, h3, h4, h5⟩ := id ht
  obtain ⟨v, g2, e, q1, q2, q3⟩ := c_42 (X := X) (d := d + 2) isD19 r hi m o h1 h2 h3 h4
  have f2 : FCD g g2 := fun c i a b' e' f' k => q3 c i a b' (by omega)
  rw [oC_of e, q1, if_b2i]
  by_cases l : mn s m 1 = 0 ∨ mn s o 1 = 0
  · have n1 : ¬ (m ≠ o ∧ ¬ (mn s m 1 = 0 ∨ mn s o 1 = 0)) := fun z => z.2 l
    have n2 : ¬ (two s m o ∧ ¬ (mn s m 1 = 0 ∨ mn s o 1 = 0)) := fun z => z.2 l
    rw [if_neg n1] at q2
    rw [if_pos l, if_neg n2, if_neg n1, K_top]
    exact CD_no q2 f2 7
  · have n1 : m ≠ o ∧ ¬ (mn s m 1 = 0 ∨ mn s o 1 = 0) := ⟨h5, l⟩
    have n2 : two s m o ∧ ¬ (mn s m 1 = 0 ∨ mn s o 1 = 0) := ⟨ht, l⟩
    rw [if_pos n1] at q2
    have hi2 := Iv_me hi hN ht l
    rw [if_neg l, if_pos n2, if_pos n1]
    simp only [↓K_top, ↓G_top, ↓P_top, ↓K_daw isD19, ↓oC_of (c_41 isD19 q2 hi2), neN_me s m o h1]
    exact CD_tell q2 f2 _
theorem m_273 (r : RM g s) (hi : Iv N s) (m o : Int) (h1 : 0 ≤ m) (h2 : m < s 1) (h3 : 0 ≤ o) (h4 : o < s 1) : Ok (fun v g' => v = b2i (m ≠ o ∧ ¬ (mn s m 1 = 0 ∨ mn s o 1 = 0)) ∧ RM g' (if m ≠ o ∧ ¬ (mn s m 1 = 0 ∨ mn s o 1 = 0) then meS s m o else s) ∧ FM g g') (MI X (d + 2) 273 [.inr (.inr 143), .inl m, .inl o] S0 (ov g)) := by
  have i3 := hi.2.2.2.1
  rw [e_273]
  by_cases e : m = o
  · rw [if_pos e]
    refine Ok_some ⟨?_, ?_, FM_rf g⟩
    · unfold b2i; rw [if_neg (fun z => z.1 e)]
    · rw [if_neg (fun z => z.1 e)]; exact r
  rw [if_neg e]
  simp only [↓K_mod, ↓oC_of (m_252 r m 1 h1 (by omega) (by omega) (by omega))]
  by_cases l1 : mn s m 1 = 0
  · rw [if_pos l1]
    refine Ok_some ⟨?_, ?_, FM_rf g⟩
    · unfold b2i; rw [if_neg (fun z => z.2 (Or.inl l1))]
    · rw [if_neg (fun z => z.2 (Or.inl l1))]; exact r
  rw [if_neg l1]
  simp only [↓K_mod, ↓oC_of (m_252 r o 1 h3 (by omega) (by omega) (by omega))]
  by_cases l2 : mn s o 1 = 0
  · rw [if_pos l2]
    refine Ok_some ⟨?_, ?_, FM_rf g⟩
    · unfold b2i; rw [if_neg (fun z => z.2 (Or.inr l2))]
    · rw [if_neg (fun z => z.2 (Or.inr l2))]; exact r
  rw [if_neg l2]
  have cc : m ≠ o ∧ ¬ (mn s m 1 = 0 ∨ mn s o 1 = 0) := ⟨e, by omega⟩
  have e2 : rd g 144 2 = s 2 := r 2 (by omega) (by omega)
  simp (disch := omega) only [↓K_mod, ↓G_mod, ↓P_mod, ↓al_144 _, ↓as_144, rd_wr_ix, e2]
  refine Ok_some ⟨?_, ?_, ?_⟩
  · unfold b2i; rw [if_pos cc]
  · rw [if_pos cc]
    exact RM_us (RM_us (RM_us (RM_us (RM_us r _ (by omega)) _ (by omega)) _ (by omega)) _ (by omega)) _ (by omega)
  · exact FM_tr (FM_tr (FM_tr (FM_tr (FM_wr _ _ (by omega) (by omega)) (FM_wr _ _ (by omega) (by omega))) (FM_wr _ _ (by omega) (by omega))) (FM_wr _ _ (by omega) (by omega))) (FM_wr _ _ (by omega) (by omega))
theorem m_274 (r : RM g s) (hi : Iv N s) (hN : 0 ≤ N) (m o : Int) : AnMD g (qMeet s m o) (uMeet s m o) (MI X (d + 3) 274 [.inr (.inr 143), .inl m, .inl o] S0 (ov g)) := by
  rw [e_274]
  simp only [↓K_mod, ↓oC_of (m_248 r _ _), ↓if_b2i]
  unfold qMeet uMeet
  by_cases ht : two s m o
  case neg =>
    rw [if_neg ht, if_neg ht, if_neg (fun z => ht z.1)]
    exact MD_no r (FND_rf g) 1
  rw [if_pos ht, if_pos ht]
  obtain ⟨h1, h2, h3, h4, h5⟩ := id ht
  obtain ⟨v, g2, e, q1, q2, q3⟩ := m_273 (X := X) (d := d) r hi m o h1 h2 h3 h4
  rw [oC_of e, q1, if_b2i]
  by_cases l : mn s m 1 = 0 ∨ mn s o 1 = 0
  · have n1 : ¬ (m ≠ o ∧ ¬ (mn s m 1 = 0 ∨ mn s o 1 = 0)) := fun z => z.2 l
    have n2 : ¬ (two s m o ∧ ¬ (mn s m 1 = 0 ∨ mn s o 1 = 0)) := fun z => z.2 l
    rw [if_neg n1] at q2
    rw [if_pos l, if_neg n2, if_neg n1, K_mod]
    exact MD_no q2 (FND_FM q3) 7
  · have n1 : m ≠ o ∧ ¬ (mn s m 1 = 0 ∨ mn s o 1 = 0) := ⟨h5, l⟩
    have n2 : two s m o ∧ ¬ (mn s m 1 = 0 ∨ mn s o 1 = 0) := ⟨ht, l⟩
    rw [if_pos n1] at q2
    have hi2 := Iv_me hi hN ht l
    rw [if_neg l, if_pos n2, if_pos n1]
    simp only [↓K_mod, ↓oC_of (m_269 q2 hi2), neN_me s m o h1]
    exact MD_tell q2 (FND_FM q3) _
theorem Iv_uMeet (hi : Iv N s) (hN : 0 ≤ N) (m o : Int) : Iv N (uMeet s m o) := by
  unfold uMeet
  split
  · next h => exact Iv_me hi hN h.1 h.2
  · exact hi
end
/-- act -/
def qAct (s : Int → Int) (a : Int) : Int × Int := if a < 0 ∨ 4 ≤ a then (-1, 1) else if s 6 = -1 then (-1, 6) else if caB (boN s) a then (plB (boN s) a (1 - s 10 % 2), 0) else (-1, 7)
def uAct (s : Int → Int) (a : Int) : Int → Int := if ¬ (a < 0 ∨ 4 ≤ a) ∧ s 6 ≠ -1 ∧ caB (boN s) a then acS s a else s
def qPart (s : Int → Int) : Int × Int := if s 6 = -1 then (-1, 6) else (s 10, 0)
def uPart (s : Int → Int) : Int → Int := if s 6 = -1 then s else paS s
section
variable {X : Xs} {d : Nat} {g : Mem} {s : Int → Int} {b N : Int}
theorem c_147 (r : RD g 19 s) (hi : Iv N s) (hN : N < 800000) (a : Int) : AnCD g (qAct s a) (uAct s a) (MI X (d + 4) 147 [.inr (.inr 1), .inl a] S0 (ov g)) := by
  rw [e_147]
  unfold qAct uAct
  by_cases h1 : a < 0
  · rw [if_pos h1, if_pos (Or.inl h1), if_neg (fun z => z.1 (Or.inl h1)), K_top]
    exact CD_no r (FCD_rf g) 1
  by_cases h2 : a < 4
  case neg =>
    rw [if_neg h1, if_neg h2, if_pos (Or.inr (by omega)), if_neg (fun z => z.1 (Or.inr (by omega))), K_top]
    exact CD_no r (FCD_rf g) 1
  rw [if_neg h1, if_pos h2, if_neg (by omega)]
  simp only [↓K_top, ↓G_top, ↓P_top, ↓K_daw isD19, ↓oC_of (c_40 isD19 r), ↓if_b2i]
  by_cases hd : s 6 = -1
  · have n1 : ¬ s 6 ≠ -1 := fun z => z hd
    have n2 : ¬ (¬ (a < 0 ∨ 4 ≤ a) ∧ s 6 ≠ -1 ∧ caB (boN s) a) := fun z => z.2.1 hd
    rw [if_pos hd, if_neg n2, if_neg n1]
    exact CD_no r (FCD_rf g) 6
  rw [if_pos hd, if_neg hd, K_bou]
  have ha : a = 0 ∨ a = 1 ∨ a = 2 ∨ a = 3 := by omega
  obtain ⟨v, g2, e, q1, q2, q3, q4⟩ := c_4 (X := X) (d := d) isD19 r hi (by omega) hd a ha
  rw [oC_of e, q1, if_b2i]
  by_cases hc : caB (boN s) a
  · obtain ⟨p1, p2, p3⟩ := q2 hc
    have IBs := IB_N hi (by omega) hd
    have pr := pl_rng IBs a ha hc
    have e6 := (pl_all (boN s) a ha).2.2.1
    have i10 := iu10 hi hd
    have e60 : boN s 6 = s 10 := rfl
    have m6 : am_and (rd g2 125 11) 1 = 1 - s 10 % 2 := by rw [am_and_1, p2.2.2.2.2.2.2.1, e6]; omega
    have c6 : MI X (d + 3) 6 [.inr (.inr 125)] S0 (ov g2) = some (1 - s 10 % 2, S0, ov g2) := by
      rw [e_6]
      simp only [↓K_bou, ↓G_bou, ↓P_bou, ↓al_126 _, ↓as_126, ↓al_127 _, ↓as_127, ↓al_128 _, ↓as_128, ↓al_129 _, ↓as_129, ↓al_130 _, ↓as_130, ↓al_131 _, ↓as_131, ↓al_132 _, ↓as_132, ↓al_133 _, ↓as_133, m6]
    rw [if_pos hc, if_pos hc, if_pos ⟨by omega, hd, hc⟩]
    simp only [↓K_top, ↓G_top, ↓P_top, ↓K_bou, ↓G_bou, ↓oC_of c6]
    have hm : s 10 % 2 = 0 ∨ s 10 % 2 = 1 := by omega
    have el : rd g2 126 (1 - s 10 % 2) = plB (boN s) a (1 - s 10 % 2) := by
      rcases hm with e | e <;> rw [e]
      · exact p2.2.1
      · exact p2.1
    rw [al_126 X g2 (by omega) (by omega), el]
    exact CD_tell p1 (FCD_FD q4) _
  · rw [if_neg hc, if_neg hc, if_neg (fun z => hc z.2.2), K_top]
    exact CD_no (q3 hc) (FCD_FD q4) 7
theorem m_280 (r : RM g s) (hi : Iv N s) (hN : N < 800000) (a : Int) : AnMD g (qAct s a) (uAct s a) (MI X (d + 8) 280 [.inr (.inr 143), .inl a] S0 (ov g)) := by
  rw [e_280]
  unfold qAct uAct
  by_cases h1 : a < 0
  · rw [if_pos h1, if_pos (Or.inl h1), if_neg (fun z => z.1 (Or.inl h1)), K_mod]
    exact MD_no r (FND_rf g) 1
  by_cases h2 : a < 4
  case neg =>
    rw [if_neg h1, if_neg h2, if_pos (Or.inr (by omega)), if_neg (fun z => z.1 (Or.inr (by omega))), K_mod]
    exact MD_no r (FND_rf g) 1
  rw [if_neg h1, if_pos h2, if_neg (by omega)]
  simp only [↓K_mod, ↓oC_of (m_268 r), ↓if_b2i]
  by_cases hd : s 6 = -1
  · have n1 : ¬ s 6 ≠ -1 := fun z => z hd
    have n2 : ¬ (¬ (a < 0 ∨ 4 ≤ a) ∧ s 6 ≠ -1 ∧ caB (boN s) a) := fun z => z.2.1 hd
    rw [if_pos hd, if_neg n2, if_neg n1]
    exact MD_no r (FND_rf g) 6
  rw [if_pos hd, if_neg hd, oC_of (m_275 r hi hd a (by omega) (by omega)), if_b2i]
  have ha : a = 0 ∨ a = 1 ∨ a = 2 ∨ a = 3 := by omega
  by_cases hc : caB (boN s) a
  case neg =>
    rw [if_neg hc, if_neg hc, if_neg (fun z => hc z.2.2), K_mod]
    exact MD_no r (FND_rf g) 7
  rw [if_pos hc, if_pos hc, if_pos ⟨by omega, hd, hc⟩]
  have i10 := iu10 hi hd
  have hm : s 10 % 2 = 0 ∨ s 10 % 2 = 1 := by omega
  obtain ⟨l6, l7, -, -⟩ := acS_life hi (by omega) hd a ha hc
  obtain ⟨v, g2, e, q1, q2, q3⟩ := m_279 (X := X) (d := d) r hi (by omega) hd a ha
  obtain ⟨i0, i1, i2, i3, j2, j3, j4, j5, j6, j7, j8, j9, it, im, iw, ia, ih, i6, iu⟩ := id hi
  obtain ⟨u0, u1, u2, u3, -⟩ := iu hd
  clear it im iw ia ih iu
  have G0 := fun (h : Mem) (f : Int → Option Rs) => (G_mod h (none : Option Rs) f).1
  have a7 : rd g 144 (7 - s 10 % 2) = s (7 - s 10 % 2) := r _ (by omega) (by omega)
  have w7 : 0 ≤ s (7 - s 10 % 2) ∧ s (7 - s 10 % 2) < 6 ∧ mn (acS s a) (s (7 - s 10 % 2)) 1 = plB (boN s) a (1 - s 10 % 2) := by
    rcases hm with e | e <;> rw [e] <;> simp only [Int.sub_zero, Int.reduceSub, Int.sub_self]
    · exact ⟨u2, by omega, l7⟩
    · exact ⟨u0, by omega, l6⟩
  rw [G0, K_mod, oC_of (m_270 r i10.1), w32_id (by omega) (by omega), al_144 X _ (by omega) (by omega), a7, K_mod, oC_of e, K_mod, oC_of (m_252 q2 _ 1 w7.1 w7.2.1 (by omega) (by omega)), w7.2.2, K_mod]
  exact MD_tell q2 (FND_FM q3) _
theorem Iv_uAct (hi : Iv N s) (hN : N < 800000) (a : Int) : Iv (N + 1) (uAct s a) := by
  unfold uAct
  split
  · next h => exact Iv_acS hi (by omega) h.2.1 a (by omega) h.2.2
  · exact Iv_le hi (by omega)
theorem c_148 (r : RD g 19 s) (hi : Iv N s) : AnCD g (qPart s) (uPart s) (MI X (d + 2) 148 [.inr (.inr 1)] S0 (ov g)) := by
  have hr := r
  obtain ⟨r0, r1, r2, rt, rm, rw', r6, r7⟩ := r
  rw [e_148]
  unfold qPart uPart
  simp only [↓K_top, ↓G_top, ↓P_top, ↓K_daw isD19, ↓oC_of (c_40 isD19 hr), ↓if_b2i]
  by_cases hd : s 6 = -1
  · rw [if_pos hd, if_pos hd, if_neg (fun z => z hd)]
    exact CD_no hr (FCD_rf g) 6
  rw [if_neg hd, if_neg hd, if_pos hd]
  obtain ⟨r7, r8, r9, r10⟩ := r7 hd
  have hb := isD19
  simp only [↓G_daw hb, ↓K_daw hb, r10, ↓oC_of (c_43 isD19), ↓K_top, ↓G_top, ↓P_top]
  refine CD_tell (RD_du isD19 hr (y := paS s) ?_ ?_ ?_) ?_ _
  · intro j hj; unfold paS; simp (disch := omega) only [us_ne]
  · unfold paS; simp (disch := omega) only [us_ne, us_eq]
  · intro z; exact absurd (show paS s 6 = -1 by unfold paS; simp (disch := omega) only [us_ne, us_eq]) z
  · exact FCD_tr (FCD_tr (FCD_tr (FCD_tr (FCD_wr _ _ _ (by omega)) (FCD_wr _ _ _ (by omega))) (FCD_wr _ _ _ (by omega))) (FCD_wr _ _ _ (by omega))) (FCD_wr _ _ _ (by omega))
theorem m_281 (r : RM g s) (hi : Iv N s) : AnMD g (qPart s) (uPart s) (MI X (d + 2) 281 [.inr (.inr 143)] S0 (ov g)) := by
  rw [e_281]
  unfold qPart uPart
  simp only [↓K_mod, ↓oC_of (m_268 r), ↓if_b2i]
  by_cases hd : s 6 = -1
  · rw [if_pos hd, if_pos hd, if_neg (fun z => z hd)]
    exact MD_no r (FND_rf g) 6
  rw [if_neg hd, if_neg hd, if_pos hd]
  obtain ⟨v, g2, e, q1, q2⟩ := m_278 (X := X) (d := d + 1) r
  have e10 : rd g2 144 10 = s 10 := by rw [q1 10 (by omega) (by omega)]; simp (disch := omega) only [us_ne]
  rw [oC_of e]
  simp (disch := omega) only [↓K_mod, ↓G_mod, ↓al_144 _, e10]
  exact MD_tell q1 (FND_FM q2) _
theorem Iv_uPart (hi : Iv N s) : Iv N (uPart s) := by
  unfold uPart
  split
  · exact hi
  · obtain ⟨i0, i1, i2, i3, j2, j3, j4, j5, j6, j7, j8, j9, -⟩ := id hi
    refine Iv_du hi (y := paS s) (fun j hj => ?_) ?_ ?_ (fun z => absurd ?_ z)
    · unfold paS; simp (disch := omega) only [us_ne]
    · unfold paS; simp (disch := omega) only [us_ne]; omega
    · unfold paS; simp (disch := omega) only [us_ne, us_eq]; omega
    · unfold paS; simp (disch := omega) only [us_ne, us_eq]
end
