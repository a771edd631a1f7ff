/-! give, mend, heal, train, rule of both -/
theorem ff_none (p : Int → Bool) : ∀ (k : Nat) (m : Int), 0 ≤ m → ff p k m = -1 → ∀ i, m ≤ i → i < m + k → p i = false
  | 0, m, h0, _, i, a, b => by omega
  | k + 1, m, h0, h, i, a, b => by
    unfold ff at h
    cases hp : p m with
    | true => rw [hp] at h; simp only [cond_true] at h; omega
    | false =>
      rw [hp] at h
      simp only [cond_false] at h
      by_cases e : i = m
      · rw [e]; exact hp
      · exact ff_none p k (m + 1) (by omega) h i (by omega) (by omega)
theorem hoN_none {s : Int → Int} {t : Int} (h : hoN s t = -1) : ∀ o, 0 ≤ o → o < s 1 → mn s o 3 ≠ t := fun o a b e => by
  have := ff_none (fun m => decide (mn s m 3 = t)) (s 1).toNat 0 (Int.le_refl 0) h o a (by omega)
  simp [e] at this
abbrev giC (s : Int → Int) (m t : Int) : Prop := (0 ≤ m ∧ m < s 1) ∧ (t = 8 ∨ (0 ≤ t ∧ t < s 0))
def giX (t : Int) : Int := if t = 8 then -1 else t
def giK (s : Int → Int) (m t : Int) : Prop := if t = 8 then mn s m 3 ≠ -1 else hoN s t = -1
def giD (s : Int → Int) (m t : Int) : Bool := if t = 8 then decide (mn s m 3 ≠ -1) else decide (hoN s t = -1)
def qGive (s : Int → Int) (m t : Int) : Int × Int := if giC s m t then (if giD s m t = true then (1, 0) else (0, 7)) else (0, 1)
def uGive (s : Int → Int) (m t : Int) : Int → Int := if giC s m t ∧ giD s m t = true then us s (44 + 10 * m + 3) (giX t) else s
def qMend (s : Int → Int) (t : Int) : Int × Int := if 0 ≤ t ∧ t < s 0 then (if th s t 3 = 0 then (-1, 7) else (th s t 3, 0)) else (-1, 1)
def uMend (s : Int → Int) (t : Int) : Int → Int := if (0 ≤ t ∧ t < s 0) ∧ ¬ th s t 3 = 0 then us s (12 + 4 * t + 3) 0 else s
def qHeal (s : Int → Int) (m x : Int) : Int × Int := if (0 ≤ m ∧ m < s 1) ∧ (1 ≤ x ∧ x ≤ 60) then (if mn s m 1 < mn s m 2 then (am_min (mn s m 2) (mn s m 1 + x), 0) else (-1, 7)) else (-1, 1)
def cuS (s : Int → Int) (m x : Int) : Int → Int := us s (44 + 10 * m + 1) (am_min (mn s m 2) (mn s m 1 + x))
def uHeal (s : Int → Int) (m x : Int) : Int → Int := if ((0 ≤ m ∧ m < s 1) ∧ (1 ≤ x ∧ x ≤ 60)) ∧ mn s m 1 < mn s m 2 then cuS s m x else s
def qTrain (s : Int → Int) (m x : Int) : Int × Int := if (0 ≤ m ∧ m < s 1) ∧ (0 ≤ x ∧ x ≤ 9) then (1, 0) else (0, 1)
def uTrain (s : Int → Int) (m x : Int) : Int → Int := if (0 ≤ m ∧ m < s 1) ∧ (0 ≤ x ∧ x ≤ 9) then us s (44 + 10 * m + 0) x else s
abbrev ruC (w x : Int) : Prop := (w = 3 ∧ 0 ≤ x ∧ x ≤ 99) ∨ (w = 4 ∧ 0 ≤ x ∧ x ≤ 9) ∨ (w = 5 ∧ 0 ≤ x ∧ x ≤ 16)
def qRule (w x : Int) : Int × Int := if ruC w x then (1, 0) else (0, 1)
def uRule (s : Int → Int) (w x : Int) : Int → Int := if ruC w x then us s w x else s
section
variable {X : Xs} {d : Nat} {g : Mem} {s : Int → Int} {b N : Int}
theorem c_149 (r : RD g 19 s) (hi : Iv N s) (m t : Int) : AnCD g (qGive s m t) (uGive s m t) (MI X (d + 2) 149 [.inr (.inr 1), .inl m, .inl t] S0 (ov g)) := by
  have hb := isD19
  have hr := r
  obtain ⟨r0, r1, r2, rt, rm, rw', r6, r7⟩ := r
  obtain ⟨i0, i1, i2, i3, -⟩ := id hi
  rw [e_149]
  simp only [↓K_top, ↓G_top, ↓P_top, ↓K_daw hb, ↓oC_of (c_23 hb hr _), ↓oC_of (c_189 hr _), ↓oC_of (c_190 _ _ _), ↓if_b2i]
  unfold qGive uGive
  by_cases hm : 0 ≤ m ∧ m < s 1
  case neg =>
    rw [if_neg hm, if_neg (show ¬ giC s m t from fun z => hm z.1), if_neg (fun z => hm z.1.1)]
    exact CD_deny hr (FCD_rf g) 1
  rw [if_pos hm]
  by_cases h8 : t = 8 ∨ (0 ≤ t ∧ t < s 0)
  case neg =>
    rw [if_neg h8, if_neg (show ¬ giC s m t from fun z => h8 z.2), if_neg (fun z => h8 z.1.2)]
    exact CD_deny hr (FCD_rf g) 1
  have hg : giC s m t := ⟨hm, h8⟩
  rw [if_pos h8, if_pos hg]
  have wr9 : RD (wr g (19 + 9) m (giX t)) 19 (us s (44 + 10 * m + 3) (giX t)) := RD_um (w0 := 3) hb hr i1 i3 (giX t) hm.1 (by omega)
  by_cases e8 : t = 8
  · have x8 : giX t = -1 := if_pos e8
    have d8 : giD s m t = decide (mn s m 3 ≠ -1) := if_pos e8
    rw [show (if t = 8 then (-1 : Int) else t) = -1 from if_pos e8, if_pos rfl, d8]
    simp (disch := omega) only [↓K_daw hb, ↓G_daw hb, ↓al_D1 _ hb, ↓al_D2 _ hb, ↓al_D3 _ hb, ↓al_D4 _ hb, ↓al_D5 _ hb, ↓al_D6 _ hb, ↓al_D7 _ hb, ↓al_D8 _ hb, ↓al_D9 _ hb, ↓al_D10 _ hb, ↓K_top, ↓G_top, ↓P_top, rm, ↓reduceIte, Int.reduceEq]
    by_cases h : mn s m 3 = -1
    · rw [if_pos h, if_neg (by simp [h]), if_neg (by simp [h])]
      exact CD_deny hr (FCD_rf g) 7
    · rw [if_neg h, if_pos (show decide (mn s m 3 ≠ -1) = true by simp [h]), if_pos (show giC s m t ∧ decide (mn s m 3 ≠ -1) = true from ⟨hg, by simp [h]⟩)]
      rw [x8] at wr9 ⊢
      simp (disch := omega) only [↓K_daw hb, ↓G_daw hb, ↓P_daw hb, ↓al_D1 _ hb, ↓as_D1 hb, ↓al_D2 _ hb, ↓as_D2 hb, ↓al_D3 _ hb, ↓as_D3 hb, ↓al_D4 _ hb, ↓as_D4 hb, ↓al_D5 _ hb, ↓as_D5 hb, ↓al_D6 _ hb, ↓as_D6 hb, ↓al_D7 _ hb, ↓as_D7 hb, ↓al_D8 _ hb, ↓as_D8 hb, ↓al_D9 _ hb, ↓as_D9 hb, ↓al_D10 _ hb, ↓as_D10 hb, ↓al_D11 hb, ↓as_D11 hb, ↓al_D12 hb, ↓as_D12 hb, ↓K_top, ↓G_top, ↓P_top]
      exact CD_yes wr9 (FCD_wr _ _ _ (by omega))
  · have x8 : giX t = t := if_neg e8
    have d8 : giD s m t = decide (hoN s t = -1) := if_neg e8
    have tn : ¬ t = -1 := by omega
    rw [show (if t = 8 then (-1 : Int) else t) = t from if_neg e8, if_neg tn, d8]
    simp only [↓K_daw hb, ↓G_daw hb, ↓K_top, ↓G_top, ↓P_top, ↓oC_of (c_27 hb hr hi _), ↓reduceIte, Int.reduceEq]
    by_cases h : hoN s t = -1
    · rw [if_pos h, if_pos (show decide (hoN s t = -1) = true by simp [h]), if_pos (show giC s m t ∧ decide (hoN s t = -1) = true from ⟨hg, by simp [h]⟩)]
      rw [x8] at wr9 ⊢
      simp (disch := omega) only [↓K_daw hb, ↓G_daw hb, ↓P_daw hb, ↓al_D1 _ hb, ↓as_D1 hb, ↓al_D2 _ hb, ↓as_D2 hb, ↓al_D3 _ hb, ↓as_D3 hb, ↓al_D4 _ hb, ↓as_D4 hb, ↓al_D5 _ hb, ↓as_D5 hb, ↓al_D6 _ hb, ↓as_D6 hb, ↓al_D7 _ hb, ↓as_D7 hb, ↓al_D8 _ hb, ↓as_D8 hb, ↓al_D9 _ hb, ↓as_D9 hb, ↓al_D10 _ hb, ↓as_D10 hb, ↓al_D11 hb, ↓as_D11 hb, ↓al_D12 hb, ↓as_D12 hb, ↓K_top, ↓G_top, ↓P_top]
      exact CD_yes wr9 (FCD_wr _ _ _ (by omega))
    · rw [if_neg h, if_neg (by simp [h]), if_neg (by simp [h])]
      exact CD_deny hr (FCD_rf g) 7
theorem c_150 (r : RD g 19 s) (hi : Iv N s) (t : Int) : AnCD g (qMend s t) (uMend s t) (MI X (d + 1) 150 [.inr (.inr 1), .inl t] S0 (ov g)) := by
  have hb := isD19
  have hr := r
  obtain ⟨r0, r1, r2, rt, rm, rw', r6, r7⟩ := r
  obtain ⟨i0, i1, i2, i3, -⟩ := id hi
  rw [e_150]
  simp only [↓K_top, ↓G_top, ↓P_top, ↓K_daw hb, ↓oC_of (c_22 hb hr _), ↓if_b2i]
  unfold qMend uMend
  by_cases ht : 0 ≤ t ∧ t < s 0
  case neg =>
    rw [if_neg ht, if_neg ht, if_neg (fun z => ht z.1)]
    exact CD_no hr (FCD_rf g) 1
  rw [if_pos ht, if_pos ht]
  simp (disch := omega) only [↓K_daw hb, ↓G_daw hb, ↓al_D1 _ hb, ↓al_D2 _ hb, ↓al_D3 _ hb, ↓al_D4 _ hb, ↓al_D5 _ hb, ↓al_D6 _ hb, ↓al_D7 _ hb, ↓al_D8 _ hb, ↓al_D9 _ hb, ↓al_D10 _ hb, ↓K_top, ↓G_top, ↓P_top, rt]
  by_cases h : th s t 3 = 0
  · rw [if_pos h, if_pos h, if_neg (fun z => z.2 h)]
    exact CD_no hr (FCD_rf g) 7
  · have hh : (0 ≤ t ∧ t < s 0) ∧ ¬ th s t 3 = 0 := ⟨ht, h⟩
    have wr5 : RD (wr g (19 + 5) t 0) 19 (us s (12 + 4 * t + 3) 0) := RD_ut (w0 := 3) hb hr i3 0 ht.1 (by omega) (by omega)
    rw [if_neg h, if_neg h, if_pos hh]
    simp (disch := omega) only [↓K_daw hb, ↓G_daw hb, ↓P_daw hb, ↓al_D1 _ hb, ↓as_D1 hb, ↓al_D2 _ hb, ↓as_D2 hb, ↓al_D3 _ hb, ↓as_D3 hb, ↓al_D4 _ hb, ↓as_D4 hb, ↓al_D5 _ hb, ↓as_D5 hb, ↓al_D6 _ hb, ↓as_D6 hb, ↓al_D7 _ hb, ↓as_D7 hb, ↓al_D8 _ hb, ↓as_D8 hb, ↓al_D9 _ hb, ↓as_D9 hb, ↓al_D10 _ hb, ↓as_D10 hb, ↓al_D11 hb, ↓as_D11 hb, ↓al_D12 hb, ↓as_D12 hb, ↓K_top, ↓G_top, ↓P_top]
    exact CD_tell wr5 (FCD_wr _ _ _ (by omega)) _
theorem c_44 (hb : isD b) (r : RD g b s) (hi : Iv N s) (m x : Int) (h0 : 0 ≤ m) (h1 : m < s 1) (x0 : 1 ≤ x) (x1 : x ≤ 60) : MI X d 44 [.inr (.inr b), .inl m, .inl x] S0 (ov g) = some (b2i (mn s m 1 < mn s m 2), S0, ov (if mn s m 1 < mn s m 2 then wr g (b + 7) m (am_min (mn s m 2) (mn s m 1 + x)) else g)) := by
  obtain ⟨r0, r1, r2, rt, rm, rw', r6, r7⟩ := r
  obtain ⟨i0, i1, i2, i3, j2, j3, j4, j5, j6, j7, j8, j9, it, im, -⟩ := hi
  have q := im m h0 h1
  rw [e_44]
  unfold b2i
  simp (disch := omega) only [↓K_daw hb, ↓G_daw hb, ↓P_daw hb, ↓al_D1 _ hb, ↓as_D1 hb, ↓al_D2 _ hb, ↓as_D2 hb, ↓al_D3 _ hb, ↓as_D3 hb, ↓al_D4 _ hb, ↓as_D4 hb, ↓al_D5 _ hb, ↓as_D5 hb, ↓al_D6 _ hb, ↓as_D6 hb, ↓al_D7 _ hb, ↓as_D7 hb, ↓al_D8 _ hb, ↓as_D8 hb, ↓al_D9 _ hb, ↓as_D9 hb, ↓al_D10 _ hb, ↓as_D10 hb, ↓al_D11 hb, ↓as_D11 hb, ↓al_D12 hb, ↓as_D12 hb, rm, w32_id]
  by_cases h : mn s m 1 < mn s m 2
  · rw [if_pos h, if_pos h, if_pos h]
  · rw [if_neg h, if_neg h, if_neg h]
theorem Iv_cu (hi : Iv N s) {m x : Int} (h0 : 0 ≤ m) (h1 : m < s 1) (x0 : 1 ≤ x) : Iv N (cuS s m x) := by
  obtain ⟨i0, i1, i2, i3, j2, j3, j4, j5, j6, j7, j8, j9, it, im, -⟩ := id hi
  have q := im m h0 h1
  refine Iv_um hi _ h0 h1 (Or.inr (Or.inl ⟨rfl, ?_, ?_⟩)) <;> (unfold am_min; split <;> omega)
theorem c_151 (r : RD g 19 s) (hi : Iv N s) (m x : Int) : AnCD g (qHeal s m x) (uHeal s m x) (MI X (d + 1) 151 [.inr (.inr 1), .inl m, .inl x] S0 (ov g)) := by
  have hb := isD19
  have hr := r
  obtain ⟨i0, i1, i2, i3, -⟩ := id hi
  rw [e_151]
  simp only [↓K_top, ↓G_top, ↓P_top, ↓K_daw hb, ↓oC_of (c_23 hb hr _), ↓if_b2i]
  unfold qHeal uHeal
  by_cases hm : 0 ≤ m ∧ m < s 1
  case neg =>
    have n1 : ¬ ((0 ≤ m ∧ m < s 1) ∧ (1 ≤ x ∧ x ≤ 60)) := fun z => hm z.1
    rw [if_neg hm, if_neg n1, if_neg (fun z => n1 z.1)]
    exact CD_no hr (FCD_rf g) 1
  rw [if_pos hm]
  by_cases h1 : x < 1
  · have n1 : ¬ ((0 ≤ m ∧ m < s 1) ∧ (1 ≤ x ∧ x ≤ 60)) := by omega
    rw [if_pos h1, if_neg n1, if_neg (fun z => n1 z.1)]
    exact CD_no hr (FCD_rf g) 1
  by_cases h2 : 60 < x
  · have n1 : ¬ ((0 ≤ m ∧ m < s 1) ∧ (1 ≤ x ∧ x ≤ 60)) := by omega
    rw [if_neg h1, if_pos h2, if_neg n1, if_neg (fun z => n1 z.1)]
    exact CD_no hr (FCD_rf g) 1
  have y1 : (0 ≤ m ∧ m < s 1) ∧ (1 ≤ x ∧ x ≤ 60) := by omega
  rw [if_neg h1, if_neg h2, if_pos y1]
  have q := c_44 (X := X) (d := d) hb hr hi m x hm.1 hm.2 (by omega) (by omega)
  simp only [↓K_top, ↓G_top, ↓P_top, ↓K_daw hb, ↓oC_of q, ↓if_b2i]
  by_cases h : mn s m 1 < mn s m 2
  · have y2 : ((0 ≤ m ∧ m < s 1) ∧ (1 ≤ x ∧ x ≤ 60)) ∧ mn s m 1 < mn s m 2 := ⟨y1, h⟩
    have w7 : RD (wr g (19 + 7) m (am_min (mn s m 2) (mn s m 1 + x))) 19 (cuS s m x) := RD_um (w0 := 1) hb hr i1 i3 _ hm.1 (by omega)
    rw [if_pos h, if_pos h, if_pos y2]
    simp only [h, ↓reduceIte]
    simp (disch := omega) only [↓K_daw hb, ↓G_daw hb, ↓al_D1 _ hb, ↓al_D2 _ hb, ↓al_D3 _ hb, ↓al_D4 _ hb, ↓al_D5 _ hb, ↓al_D6 _ hb, ↓al_D7 _ hb, ↓al_D8 _ hb, ↓al_D9 _ hb, ↓al_D10 _ hb, ↓K_top, ↓G_top, ↓P_top, rd_wr_eq]
    exact CD_tell w7 (FCD_wr _ _ _ (by omega)) _
  · rw [if_neg h, if_neg h, if_neg (fun z => h z.2)]
    simp only [h, ↓reduceIte]
    exact CD_no hr (FCD_rf g) 7
theorem c_152 (r : RD g 19 s) (hi : Iv N s) (m x : Int) : AnCD g (qTrain s m x) (uTrain s m x) (MI X (d + 1) 152 [.inr (.inr 1), .inl m, .inl x] S0 (ov g)) := by
  have hb := isD19
  have hr := r
  obtain ⟨i0, i1, i2, i3, -⟩ := id hi
  rw [e_152]
  simp only [↓K_top, ↓G_top, ↓P_top, ↓K_daw hb, ↓oC_of (c_23 hb hr _), ↓if_b2i]
  unfold qTrain uTrain
  by_cases hm : 0 ≤ m ∧ m < s 1
  case neg =>
    have n1 : ¬ ((0 ≤ m ∧ m < s 1) ∧ (0 ≤ x ∧ x ≤ 9)) := fun z => hm z.1
    rw [if_neg hm, if_neg n1, if_neg n1]
    exact CD_deny hr (FCD_rf g) 1
  rw [if_pos hm]
  by_cases h1 : x < 0
  · have n1 : ¬ ((0 ≤ m ∧ m < s 1) ∧ (0 ≤ x ∧ x ≤ 9)) := by omega
    rw [if_pos h1, if_neg n1, if_neg n1]
    exact CD_deny hr (FCD_rf g) 1
  by_cases h2 : 9 < x
  · have n1 : ¬ ((0 ≤ m ∧ m < s 1) ∧ (0 ≤ x ∧ x ≤ 9)) := by omega
    rw [if_neg h1, if_pos h2, if_neg n1, if_neg n1]
    exact CD_deny hr (FCD_rf g) 1
  have y1 : (0 ≤ m ∧ m < s 1) ∧ (0 ≤ x ∧ x ≤ 9) := by omega
  have w6 := RD_um (w0 := 0) hb hr i1 i3 x hm.1 (by omega)
  rw [Int.add_zero] at w6
  rw [if_neg h1, if_neg h2, if_pos y1, if_pos y1]
  simp (disch := omega) only [↓K_daw hb, ↓G_daw hb, ↓P_daw hb, ↓al_D1 _ hb, ↓as_D1 hb, ↓al_D2 _ hb, ↓as_D2 hb, ↓al_D3 _ hb, ↓as_D3 hb, ↓al_D4 _ hb, ↓as_D4 hb, ↓al_D5 _ hb, ↓as_D5 hb, ↓al_D6 _ hb, ↓as_D6 hb, ↓al_D7 _ hb, ↓as_D7 hb, ↓al_D8 _ hb, ↓as_D8 hb, ↓al_D9 _ hb, ↓as_D9 hb, ↓al_D10 _ hb, ↓as_D10 hb, ↓al_D11 hb, ↓as_D11 hb, ↓al_D12 hb, ↓as_D12 hb, ↓K_top, ↓G_top, ↓P_top]
  exact CD_yes w6 (FCD_wr _ _ _ (by omega))
theorem roL : roLow 1 = 0 ∧ roLow 2 = 0 ∧ roLow 3 = 0 ∧ roHigh 1 = 99 ∧ roHigh 2 = 9 ∧ roHigh 3 = 16 := ⟨rfl, rfl, rfl, rfl, rfl, rfl⟩
theorem c_154 (r : RD g 19 s) (w x : Int) (hw : -2147483648 ≤ w) (hw2 : w < 2147483648) : AnCD g (qRule w x) (uRule s w x) (MI X (d + 1) 154 [.inr (.inr 1), .inl w, .inl x] S0 (ov g)) := by
  have hb := isD19
  rw [e_154]
  unfold qRule uRule
  by_cases h0 : w < 0
  · have n1 : ¬ ruC w x := by unfold ruC; omega
    rw [if_pos h0, if_pos (show (-1 : Int) < 1 by decide), if_neg n1, if_neg n1, K_top]
    exact CD_deny r (FCD_rf g) 1
  rw [if_neg h0, w32_id (x := w - 2) (by omega) (by omega)]
  by_cases h1 : w - 2 < 1
  · have n1 : ¬ ruC w x := by unfold ruC; omega
    rw [if_pos h1, if_neg n1, if_neg n1, K_top]
    exact CD_deny r (FCD_rf g) 1
  by_cases h2 : 3 < w - 2
  · have n1 : ¬ ruC w x := by unfold ruC; omega
    rw [if_neg h1, if_pos h2, if_neg n1, if_neg n1, K_top]
    exact CD_deny r (FCD_rf g) 1
  rw [if_neg h1, if_neg h2, al_low X g (by omega) (by omega)]
  have c : w = 3 ∨ w = 4 ∨ w = 5 := by omega
  have lo : roLow (w - 2) = 0 := by rcases c with rfl | rfl | rfl <;> rfl
  have hx : roHigh (w - 2) = if w = 3 then 99 else if w = 4 then 9 else 16 := by rcases c with rfl | rfl | rfl <;> rfl
  rw [lo]
  by_cases h3 : x < 0
  · have n1 : ¬ ruC w x := by unfold ruC; omega
    rw [if_pos h3, if_neg n1, if_neg n1, K_top]
    exact CD_deny r (FCD_rf g) 1
  rw [if_neg h3, al_high X g (by omega) (by omega), hx]
  by_cases h4 : (if w = 3 then (99 : Int) else if w = 4 then 9 else 16) < x
  · have n1 : ¬ ruC w x := by
      unfold ruC
      rcases c with rfl | rfl | rfl <;> simp only [↓reduceIte, Int.reduceEq] at h4 <;> omega
    rw [if_pos h4, if_neg n1, if_neg n1, K_top]
    exact CD_deny r (FCD_rf g) 1
  · have y1 : ruC w x := by
      unfold ruC
      rcases c with rfl | rfl | rfl <;> simp only [↓reduceIte, Int.reduceEq] at h4 <;> omega
    have w2 := RD_rule hb r (i := w - 2) x (by omega) (by omega)
    rw [show 2 + (w - 2) = w by omega] at w2
    rw [if_neg h4, if_pos y1, if_pos y1]
    simp (disch := omega) only [↓K_daw hb, ↓G_daw hb, ↓P_daw hb, ↓al_D1 _ hb, ↓as_D1 hb, ↓al_D2 _ hb, ↓as_D2 hb, ↓al_D3 _ hb, ↓as_D3 hb, ↓al_D4 _ hb, ↓as_D4 hb, ↓al_D5 _ hb, ↓as_D5 hb, ↓al_D6 _ hb, ↓as_D6 hb, ↓al_D7 _ hb, ↓as_D7 hb, ↓al_D8 _ hb, ↓as_D8 hb, ↓al_D9 _ hb, ↓as_D9 hb, ↓al_D10 _ hb, ↓as_D10 hb, ↓al_D11 hb, ↓as_D11 hb, ↓al_D12 hb, ↓as_D12 hb, ↓K_top, ↓G_top, ↓P_top]
    exact CD_yes w2 (FCD_wr _ _ _ (by omega))
end
