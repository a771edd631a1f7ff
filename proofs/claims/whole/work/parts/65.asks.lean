/-! THINGS, MEN, the DUEL as they stand, asked of both; what can be done; how far -/
section
variable {X : Xs} {d : Nat} {g : Mem} {s : Int → Int} {N : Int}
theorem AnC_eq {q : Int × Int} {o : Option Rs} (h : o = some (q.1, S0, ov (wr g 1 15 q.2))) : AnC g q o := ⟨_, _, h, rfl, rd_wr_eq _ _ _ _, FC_st _ _⟩
theorem AnM_eq {q : Int × Int} {o : Option Rs} (h : o = some (q.1, S0, ov (wr g 143 2 q.2))) : AnM g q o := ⟨_, _, h, rfl, rd_wr_eq _ _ _ _, FN_st _ _⟩
theorem c_140 (r : RD g 19 s) (hi : Iv N s) (t w : Int) : AnC g (qThing s t w) (MI X (d + 2) 140 [.inr (.inr 1), .inl t, .inl w] S0 (ov g)) := by
  have hb := isD19
  have hr := r
  obtain ⟨r0, r1, r2, rt, rm, rw', r6, r7⟩ := r
  have i1 := hi.2.1
  rw [e_140]
  simp only [↓K_top, ↓G_top, ↓P_top, ↓K_daw hb, ↓oC_of (c_22 hb hr _), ↓if_b2i]
  unfold qThing
  by_cases ht : 0 ≤ t ∧ t < s 0
  case neg =>
    rw [if_neg ht, if_neg (fun z => ht ⟨z.1, z.2.1⟩)]
    exact AnC_no (FC_rf g) 1
  rw [if_pos ht]
  by_cases hw : 0 ≤ w ∧ w ≤ 4
  case neg =>
    rw [if_neg (fun z => hw ⟨z.2.2.1, z.2.2.2⟩), if_neg (by omega), if_neg (by omega), if_neg (by omega), if_neg (by omega), if_neg (by omega)]
    exact AnC_no (FC_rf g) 1
  rw [if_pos ⟨ht.1, ht.2, hw.1, hw.2⟩]
  have c : w = 0 ∨ w = 1 ∨ w = 2 ∨ w = 3 ∨ w = 4 := by omega
  rcases c with rfl | rfl | rfl | rfl | rfl
  · simp (disch := omega) only [↓K_top, ↓G_top, ↓P_top, ↓K_daw hb, ↓G_daw hb, ↓al_D1 _ hb, ↓al_D2 _ hb, ↓al_D3 _ hb, ↓al_D4 _ hb, ↓al_D5 _ hb, ↓al_D6 _ hb, ↓al_D7 _ hb, ↓al_D8 _ hb, ↓al_D9 _ hb, ↓al_D10 _ hb, ↓reduceIte, Int.reduceEq, rt]
    exact AnC_tell (FC_rf g) _
  · simp (disch := omega) only [↓K_top, ↓G_top, ↓P_top, ↓K_daw hb, ↓G_daw hb, ↓al_D1 _ hb, ↓al_D2 _ hb, ↓al_D3 _ hb, ↓al_D4 _ hb, ↓al_D5 _ hb, ↓al_D6 _ hb, ↓al_D7 _ hb, ↓al_D8 _ hb, ↓al_D9 _ hb, ↓al_D10 _ hb, ↓reduceIte, Int.reduceEq, rt]
    exact AnC_tell (FC_rf g) _
  · simp (disch := omega) only [↓K_top, ↓G_top, ↓P_top, ↓K_daw hb, ↓G_daw hb, ↓al_D1 _ hb, ↓al_D2 _ hb, ↓al_D3 _ hb, ↓al_D4 _ hb, ↓al_D5 _ hb, ↓al_D6 _ hb, ↓al_D7 _ hb, ↓al_D8 _ hb, ↓al_D9 _ hb, ↓al_D10 _ hb, ↓reduceIte, Int.reduceEq, rt]
    exact AnC_tell (FC_rf g) _
  · simp (disch := omega) only [↓K_top, ↓G_top, ↓P_top, ↓K_daw hb, ↓G_daw hb, ↓al_D1 _ hb, ↓al_D2 _ hb, ↓al_D3 _ hb, ↓al_D4 _ hb, ↓al_D5 _ hb, ↓al_D6 _ hb, ↓al_D7 _ hb, ↓al_D8 _ hb, ↓al_D9 _ hb, ↓al_D10 _ hb, ↓reduceIte, Int.reduceEq, rt]
    exact AnC_tell (FC_rf g) _
  · simp only [↓K_top, ↓G_top, ↓P_top, ↓K_daw hb, ↓reduceIte, Int.reduceEq, ↓oC_of (c_28 hb hr hi t ht.1 ht.2), ↓if_b2i]
    by_cases z : th s t 2 ≤ th s t 3
    · rw [if_pos z, show b2i (th s t 2 ≤ th s t 3) = 1 from if_pos z]
      exact AnC_tell (FC_rf g) _
    · rw [if_neg z, show b2i (th s t 2 ≤ th s t 3) = 0 from if_neg z]
      exact AnC_tell (FC_rf g) _
theorem m_263 (r : RM g s) (hi : Iv N s) (t w : Int) : AnM g (qThing s t w) (MI X (d + 3) 263 [.inr (.inr 143), .inl t, .inl w] S0 (ov g)) := by
  have i1 := hi.2.1
  rw [e_263]
  simp only [↓K_mod, ↓oC_of (m_246 r _), ↓if_b2i]
  unfold qThing
  by_cases ht : 0 ≤ t ∧ t < s 0
  case neg =>
    rw [if_neg ht, if_neg (fun z => ht ⟨z.1, z.2.1⟩)]
    exact AnM_no (FN_rf g) 1
  rw [if_pos ht]
  by_cases h1 : w < 0
  · rw [if_pos h1, if_neg (fun z => by omega)]
    exact AnM_no (FN_rf g) 1
  by_cases h2 : 4 < w
  · rw [if_neg h1, if_pos h2, if_neg (fun z => by omega)]
    exact AnM_no (FN_rf g) 1
  rw [if_neg h1, if_neg h2, if_pos ⟨ht.1, ht.2, by omega, by omega⟩]
  by_cases h4 : w = 4
  · rw [if_pos h4, if_pos h4]
    simp only [↓K_mod, ↓oC_of (m_253 r t ht.1 (by omega)), ↓if_b2i]
    by_cases z : th s t 2 ≤ th s t 3
    · rw [if_pos z, show b2i (th s t 2 ≤ th s t 3) = 1 from if_pos z]
      exact AnM_tell (FN_rf g) _
    · rw [if_neg z, show b2i (th s t 2 ≤ th s t 3) = 0 from if_neg z]
      exact AnM_tell (FN_rf g) _
  · rw [if_neg h4, if_neg h4]
    simp only [↓K_mod, ↓oC_of (m_251 r t w ht.1 (by omega) (by omega) (by omega))]
    exact AnM_tell (FN_rf g) _
theorem c_141 (r : RD g 19 s) (hi : Iv N s) (t : Int) : AnC g (qHolder s t) (MI X (d + 2) 141 [.inr (.inr 1), .inl t] S0 (ov g)) := by
  rw [e_141]
  simp only [↓K_top, ↓G_top, ↓P_top, ↓K_daw isD19, ↓oC_of (c_22 isD19 r _), ↓oC_of (c_27 isD19 r hi _), ↓if_b2i]
  unfold qHolder
  by_cases ht : 0 ≤ t ∧ t < s 0
  · rw [if_pos ht, if_pos ht]
    exact AnC_orN (FC_rf g) _
  · rw [if_neg ht, if_neg ht]
    exact AnC_no (FC_rf g) 1
theorem m_264 (r : RM g s) (hi : Iv N s) (t : Int) : AnM g (qHolder s t) (MI X (d + 3) 264 [.inr (.inr 143), .inl t] S0 (ov g)) := by
  rw [e_264]
  simp only [↓K_mod, ↓oC_of (m_246 r _), ↓oC_of (m_257 r hi _), ↓if_b2i]
  unfold qHolder
  by_cases ht : 0 ≤ t ∧ t < s 0
  · rw [if_pos ht, if_pos ht]
    exact AnM_orN (FN_rf g) _
  · rw [if_neg ht, if_neg ht]
    exact AnM_no (FN_rf g) 1
theorem c_142 (r : RD g 19 s) (hi : Iv N s) (hN : N < 1000000) (m w : Int) : AnC g (qMan s m w) (MI X (d + 3) 142 [.inr (.inr 1), .inl m, .inl w] S0 (ov g)) := by
  have hb := isD19
  have hr := r
  obtain ⟨r0, r1, r2, rt, rm, rw', r6, r7⟩ := r
  have i1 := hi.2.2.2.1
  rw [e_142]
  simp only [↓K_top, ↓G_top, ↓P_top, ↓K_daw hb, ↓oC_of (c_23 hb hr _), ↓if_b2i]
  unfold qMan
  by_cases ht : 0 ≤ m ∧ m < s 1
  case neg =>
    rw [if_neg ht, if_neg (fun z => ht ⟨z.1, z.2.1⟩)]
    exact AnC_no (FC_rf g) 1
  rw [if_pos ht]
  by_cases hw : 0 ≤ w ∧ w ≤ 6
  case neg =>
    rw [if_neg (fun z => hw ⟨z.2.2.1, z.2.2.2⟩), if_neg (by omega), if_neg (by omega), if_neg (by omega), if_neg (by omega), if_neg (by omega), if_neg (by omega), if_neg (by omega)]
    exact AnC_no (FC_rf g) 1
  rw [if_pos ⟨ht.1, ht.2, hw.1, hw.2⟩]
  have c : w = 0 ∨ w = 1 ∨ w = 2 ∨ w = 3 ∨ w = 4 ∨ w = 5 ∨ w = 6 := by omega
  rcases c with rfl | rfl | rfl | rfl | rfl | rfl | rfl
  · simp (disch := omega) only [↓K_top, ↓G_top, ↓P_top, ↓K_daw hb, ↓G_daw hb, ↓al_D1 _ hb, ↓al_D2 _ hb, ↓al_D3 _ hb, ↓al_D4 _ hb, ↓al_D5 _ hb, ↓al_D6 _ hb, ↓al_D7 _ hb, ↓al_D8 _ hb, ↓al_D9 _ hb, ↓al_D10 _ hb, ↓reduceIte, Int.reduceEq, rm]
    exact AnC_tell (FC_rf g) _
  · simp (disch := omega) only [↓K_top, ↓G_top, ↓P_top, ↓K_daw hb, ↓G_daw hb, ↓al_D1 _ hb, ↓al_D2 _ hb, ↓al_D3 _ hb, ↓al_D4 _ hb, ↓al_D5 _ hb, ↓al_D6 _ hb, ↓al_D7 _ hb, ↓al_D8 _ hb, ↓al_D9 _ hb, ↓al_D10 _ hb, ↓reduceIte, Int.reduceEq, rm]
    exact AnC_tell (FC_rf g) _
  · simp (disch := omega) only [↓K_top, ↓G_top, ↓P_top, ↓K_daw hb, ↓G_daw hb, ↓al_D1 _ hb, ↓al_D2 _ hb, ↓al_D3 _ hb, ↓al_D4 _ hb, ↓al_D5 _ hb, ↓al_D6 _ hb, ↓al_D7 _ hb, ↓al_D8 _ hb, ↓al_D9 _ hb, ↓al_D10 _ hb, ↓reduceIte, Int.reduceEq, rm]
    exact AnC_tell (FC_rf g) _
  · simp only [↓K_top, ↓G_top, ↓P_top, ↓K_daw hb, ↓reduceIte, Int.reduceEq, ↓oC_of (c_30 hb hr hi m ht.1 ht.2)]
    exact AnC_tell (FC_rf g) _
  · simp only [↓K_top, ↓G_top, ↓P_top, ↓K_daw hb, ↓reduceIte, Int.reduceEq, ↓oC_of (c_31 hb hr hi m ht.1 ht.2)]
    exact AnC_tell (FC_rf g) _
  · simp only [↓K_top, ↓G_top, ↓P_top, ↓K_daw hb, ↓reduceIte, Int.reduceEq, ↓oC_of (c_37 hb hr hi hN m ht.1 ht.2)]
    exact AnC_tell (FC_rf g) _
  · simp only [↓K_top, ↓G_top, ↓P_top, ↓K_daw hb, ↓reduceIte, Int.reduceEq, ↓oC_of (c_38 hb hr hi hN m ht.1 ht.2)]
    exact AnC_tell (FC_rf g) _
theorem m_265 (r : RM g s) (hi : Iv N s) (hN : N < 1000000) (m w : Int) : AnM g (qMan s m w) (MI X (d + 5) 265 [.inr (.inr 143), .inl m, .inl w] S0 (ov g)) := by
  have i1 := hi.2.2.2.1
  rw [e_265]
  simp only [↓K_mod, ↓oC_of (m_247 r _), ↓if_b2i]
  unfold qMan
  by_cases ht : 0 ≤ m ∧ m < s 1
  case neg =>
    rw [if_neg ht, if_neg (fun z => ht ⟨z.1, z.2.1⟩)]
    exact AnM_no (FN_rf g) 1
  rw [if_pos ht]
  by_cases h1 : w < 0
  · rw [if_pos h1, if_neg (fun z => by omega)]
    exact AnM_no (FN_rf g) 1
  by_cases h2 : 6 < w
  · rw [if_neg h1, if_pos h2, if_neg (fun z => by omega)]
    exact AnM_no (FN_rf g) 1
  rw [if_neg h1, if_neg h2, if_pos ⟨ht.1, ht.2, by omega, by omega⟩]
  by_cases h3 : w = 3
  · rw [if_pos h3, if_pos h3]
    simp only [↓K_mod, ↓oC_of (m_255 r hi m ht.1 ht.2)]
    exact AnM_tell (FN_rf g) _
  by_cases h4 : w = 4
  · rw [if_neg h3, if_neg h3, if_pos h4, if_pos h4]
    simp only [↓K_mod, ↓oC_of (m_256 r hi m ht.1 ht.2)]
    exact AnM_tell (FN_rf g) _
  by_cases h5 : w = 5
  · rw [if_neg h3, if_neg h3, if_neg h4, if_neg h4, if_pos h5, if_pos h5]
    simp only [↓K_mod, ↓oC_of (m_258 r hi hN m ht.1 ht.2)]
    exact AnM_tell (FN_rf g) _
  by_cases h6 : w = 6
  · rw [if_neg h3, if_neg h3, if_neg h4, if_neg h4, if_neg h5, if_neg h5, if_pos h6, if_pos h6]
    simp only [↓K_mod, ↓oC_of (m_259 r hi hN m ht.1 ht.2)]
    exact AnM_tell (FN_rf g) _
  rw [if_neg h3, if_neg h3, if_neg h4, if_neg h4, if_neg h5, if_neg h5, if_neg h6, if_neg h6]
  simp only [↓K_mod, ↓oC_of (m_252 r m w ht.1 (by omega) (by omega) (by omega))]
  exact AnM_tell (FN_rf g) _
theorem c_143 (r : RD g 19 s) (hi : Iv N s) (m : Int) : AnC g (qHolds s m) (MI X (d + 2) 143 [.inr (.inr 1), .inl m] S0 (ov g)) := by
  have hb := isD19
  have hr := r
  obtain ⟨r0, r1, r2, rt, rm, rw', r6, r7⟩ := r
  have i1 := hi.2.2.2.1
  rw [e_143]
  simp only [↓K_top, ↓G_top, ↓P_top, ↓K_daw isD19, ↓oC_of (c_23 isD19 hr _), ↓if_b2i]
  unfold qHolds
  by_cases ht : 0 ≤ m ∧ m < s 1
  · rw [if_pos ht, if_pos ht]
    simp (disch := omega) only [↓K_daw hb, ↓G_daw hb, ↓al_D1 _ hb, ↓al_D2 _ hb, ↓al_D3 _ hb, ↓al_D4 _ hb, ↓al_D5 _ hb, ↓al_D6 _ hb, ↓al_D7 _ hb, ↓al_D8 _ hb, ↓al_D9 _ hb, ↓al_D10 _ hb, rm, ↓K_top, ↓G_top, ↓P_top]
    exact AnC_orN (FC_rf g) _
  · rw [if_neg ht, if_neg ht]
    exact AnC_no (FC_rf g) 1
theorem m_266 (r : RM g s) (hi : Iv N s) (m : Int) : AnM g (qHolds s m) (MI X (d + 3) 266 [.inr (.inr 143), .inl m] S0 (ov g)) := by
  have i1 := hi.2.2.2.1
  rw [e_266]
  simp only [↓K_mod, ↓oC_of (m_247 r _), ↓if_b2i]
  unfold qHolds
  by_cases ht : 0 ≤ m ∧ m < s 1
  · rw [if_pos ht, if_pos ht]
    simp only [↓K_mod, ↓oC_of (m_252 r m 3 ht.1 (by omega) (by omega) (by omega))]
    exact AnM_orN (FN_rf g) _
  · rw [if_neg ht, if_neg ht]
    exact AnM_no (FN_rf g) 1
theorem c_144 (r : RD g 19 s) (hi : Iv N s) (m o : Int) : AnC g (qWon s m o) (MI X (d + 2) 144 [.inr (.inr 1), .inl m, .inl o] S0 (ov g)) := by
  rw [e_144]
  simp only [↓K_top, ↓G_top, ↓P_top, ↓K_daw isD19, ↓oC_of (c_24 isD19 r _ _), ↓if_b2i]
  unfold qWon
  by_cases ht : 0 ≤ m ∧ m < s 1 ∧ 0 ≤ o ∧ o < s 1 ∧ m ≠ o
  · rw [if_pos ht, if_pos ht]
    obtain ⟨h1, h2, h3, h4, -⟩ := ht
    simp only [↓K_top, ↓G_top, ↓P_top, ↓oC_of (c_35 isD19 r hi m o h1 h2 h3 h4)]
    exact AnC_tell (FC_rf g) _
  · rw [if_neg ht, if_neg ht]
    exact AnC_no (FC_rf g) 1
theorem m_267 (r : RM g s) (hi : Iv N s) (m o : Int) : AnM g (qWon s m o) (MI X (d + 3) 267 [.inr (.inr 143), .inl m, .inl o] S0 (ov g)) := by
  have i1 := hi.2.2.2.1
  rw [e_267]
  simp only [↓K_mod, ↓oC_of (m_248 r _ _), ↓if_b2i]
  unfold qWon
  by_cases ht : 0 ≤ m ∧ m < s 1 ∧ 0 ≤ o ∧ o < s 1 ∧ m ≠ o
  · rw [if_pos ht, if_pos ht]
    obtain ⟨h1, h2, h3, h4, -⟩ := ht
    rw [w32_id (by omega) (by omega)]
    simp only [↓K_mod, ↓oC_of (m_252 r m (4 + o) h1 (by omega) (by omega) (by omega))]
    exact AnM_tell (FN_rf g) _
  · rw [if_neg ht, if_neg ht]
    exact AnM_no (FN_rf g) 1
theorem c_145 (r : RD g 19 s) (hi : Iv N s) (w : Int) : AnC g (qDuel s w) (MI X (d + 3) 145 [.inr (.inr 1), .inl w] S0 (ov g)) := by
  have hb := isD19
  have hr := r
  obtain ⟨r0, r1, r2, rt, rm, rw', r6, r7⟩ := r
  rw [e_145]
  unfold qDuel
  by_cases h1 : w < 0
  · rw [if_pos h1, if_pos (Or.inl h1), K_top]
    exact AnC_no (FC_rf g) 1
  by_cases h2 : 6 < w
  · rw [if_neg h1, if_pos h2, if_pos (Or.inr h2), K_top]
    exact AnC_no (FC_rf g) 1
  rw [if_neg h1, if_neg h2, if_neg (by omega)]
  simp only [↓K_top, ↓G_top, ↓P_top, ↓K_daw isD19, ↓oC_of (c_40 isD19 hr), ↓if_b2i]
  by_cases hd : s 6 = -1
  · rw [if_pos hd, if_neg (fun z => z hd)]
    exact AnC_no (FC_rf g) 6
  rw [if_pos hd, if_neg hd]
  obtain ⟨r7, r8, r9, r10⟩ := r7 hd
  have h10 := iu10 hi hd
  have c : w = 0 ∨ w = 1 ∨ w = 2 ∨ w = 3 ∨ w = 4 ∨ w = 5 ∨ w = 6 := by omega
  rcases c with rfl | rfl | rfl | rfl | rfl | rfl | rfl
  · simp (disch := omega) only [↓K_top, ↓G_top, ↓P_top, ↓K_daw hb, ↓G_daw hb, ↓al_D1 _ hb, ↓al_D2 _ hb, ↓al_D3 _ hb, ↓al_D4 _ hb, ↓al_D5 _ hb, ↓al_D6 _ hb, ↓al_D7 _ hb, ↓al_D8 _ hb, ↓al_D9 _ hb, ↓al_D10 _ hb, ↓reduceIte, Int.reduceEq, r6, Int.reduceAdd]
    exact AnC_tell (FC_rf g) _
  · simp (disch := omega) only [↓K_top, ↓G_top, ↓P_top, ↓K_daw hb, ↓G_daw hb, ↓al_D1 _ hb, ↓al_D2 _ hb, ↓al_D3 _ hb, ↓al_D4 _ hb, ↓al_D5 _ hb, ↓al_D6 _ hb, ↓al_D7 _ hb, ↓al_D8 _ hb, ↓al_D9 _ hb, ↓al_D10 _ hb, ↓reduceIte, Int.reduceEq, r7, Int.reduceAdd]
    exact AnC_tell (FC_rf g) _
  · simp (disch := omega) only [↓K_top, ↓G_top, ↓P_top, ↓K_daw hb, ↓G_daw hb, ↓al_D1 _ hb, ↓al_D2 _ hb, ↓al_D3 _ hb, ↓al_D4 _ hb, ↓al_D5 _ hb, ↓al_D6 _ hb, ↓al_D7 _ hb, ↓al_D8 _ hb, ↓al_D9 _ hb, ↓al_D10 _ hb, ↓reduceIte, Int.reduceEq, r8, Int.reduceAdd]
    exact AnC_tell (FC_rf g) _
  · simp (disch := omega) only [↓K_top, ↓G_top, ↓P_top, ↓K_daw hb, ↓G_daw hb, ↓al_D1 _ hb, ↓al_D2 _ hb, ↓al_D3 _ hb, ↓al_D4 _ hb, ↓al_D5 _ hb, ↓al_D6 _ hb, ↓al_D7 _ hb, ↓al_D8 _ hb, ↓al_D9 _ hb, ↓al_D10 _ hb, ↓reduceIte, Int.reduceEq, r9, Int.reduceAdd]
    exact AnC_tell (FC_rf g) _
  · simp only [↓K_top, ↓G_top, ↓P_top, ↓K_daw hb, ↓reduceIte, Int.reduceEq, ↓oC_of (c_41 hb hr hi)]
    exact AnC_tell (FC_rf g) _
  · simp (disch := omega) only [↓K_top, ↓G_top, ↓P_top, ↓K_daw hb, ↓G_daw hb, ↓al_D1 _ hb, ↓al_D2 _ hb, ↓al_D3 _ hb, ↓al_D4 _ hb, ↓al_D5 _ hb, ↓al_D6 _ hb, ↓al_D7 _ hb, ↓al_D8 _ hb, ↓al_D9 _ hb, ↓al_D10 _ hb, ↓reduceIte, Int.reduceEq, r10, Int.reduceAdd]
    exact AnC_tell (FC_rf g) _
  · have hm : s 10 % 2 = 0 ∨ s 10 % 2 = 1 := by omega
    simp (disch := omega) only [↓K_top, ↓G_top, ↓P_top, ↓K_daw hb, ↓G_daw hb, ↓al_D1 _ hb, ↓al_D2 _ hb, ↓al_D3 _ hb, ↓al_D4 _ hb, ↓al_D5 _ hb, ↓al_D6 _ hb, ↓al_D7 _ hb, ↓al_D8 _ hb, ↓al_D9 _ hb, ↓al_D10 _ hb, ↓reduceIte, Int.reduceEq, r10, am_and_1]
    rcases hm with e | e
    · rw [e]
      simp (disch := omega) only [↓K_top, ↓G_top, ↓P_top, ↓K_daw hb, ↓G_daw hb, ↓al_D1 _ hb, ↓al_D2 _ hb, ↓al_D3 _ hb, ↓al_D4 _ hb, ↓al_D5 _ hb, ↓al_D6 _ hb, ↓al_D7 _ hb, ↓al_D8 _ hb, ↓al_D9 _ hb, ↓al_D10 _ hb, ↓reduceIte, r6, Int.reduceAdd]
      exact AnC_tell (FC_rf g) _
    · rw [e]
      simp (disch := omega) only [↓K_top, ↓G_top, ↓P_top, ↓K_daw hb, ↓G_daw hb, ↓al_D1 _ hb, ↓al_D2 _ hb, ↓al_D3 _ hb, ↓al_D4 _ hb, ↓al_D5 _ hb, ↓al_D6 _ hb, ↓al_D7 _ hb, ↓al_D8 _ hb, ↓al_D9 _ hb, ↓al_D10 _ hb, ↓reduceIte, Int.reduceEq, r7, Int.reduceAdd]
      exact AnC_tell (FC_rf g) _
theorem m_272 (r : RM g s) (hi : Iv N s) (w : Int) : AnM g (qDuel s w) (MI X (d + 3) 272 [.inr (.inr 143), .inl w] S0 (ov g)) := by
  have rr : ∀ i, 0 ≤ i → i < 104 → rd g 144 i = s i := r
  rw [e_272]
  unfold qDuel
  by_cases h1 : w < 0
  · rw [if_pos h1, if_pos (Or.inl h1), K_mod]
    exact AnM_no (FN_rf g) 1
  by_cases h2 : 6 < w
  · rw [if_neg h1, if_pos h2, if_pos (Or.inr h2), K_mod]
    exact AnM_no (FN_rf g) 1
  rw [if_neg h1, if_neg h2, if_neg (by omega)]
  simp only [↓K_mod, ↓oC_of (m_268 r), ↓if_b2i]
  by_cases hd : s 6 = -1
  · rw [if_pos hd, if_neg (fun z => z hd)]
    exact AnM_no (FN_rf g) 6
  rw [if_pos hd, if_neg hd]
  have h10 := iu10 hi hd
  by_cases h4 : w = 4
  · rw [if_pos h4, if_pos h4]
    simp only [↓K_mod, ↓oC_of (m_269 r hi)]
    exact AnM_tell (FN_rf g) _
  by_cases h5 : w = 5
  · rw [if_neg h4, if_neg h4, if_pos h5, if_pos h5]
    simp (disch := omega) only [↓K_mod, ↓G_mod, ↓al_144 _, rr]
    exact AnM_tell (FN_rf g) _
  by_cases h6 : w = 6
  · rw [if_neg h4, if_neg h4, if_neg h5, if_neg h5, if_pos h6, if_pos h6]
    simp only [↓K_mod, ↓oC_of (m_271 r h10.1)]
    exact AnM_tell (FN_rf g) _
  rw [if_neg h4, if_neg h4, if_neg h5, if_neg h5, if_neg h6, if_neg h6]
  simp (disch := omega) only [↓K_mod, ↓G_mod, ↓al_144 _, rr, w32_id]
  exact AnM_tell (FN_rf g) _
end
