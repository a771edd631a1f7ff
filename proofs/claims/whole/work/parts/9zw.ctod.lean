/-! the constructors: YEARS, DAWNS -/
section
variable {X : Xs} {d : Nat}

theorem n_18_l {S : Sh} {b : Int} (b0 : 0 ≤ b) (k1 : kd S b = 1) (k2 : kd S (b + 10) = 20) (k3 : ln S (b + 10) = 36) (k4 : kd S (b + 13) = 8) : ∀ (k : Nat) (i : Int) (h : Mem), i + k = 36 → 0 ≤ i → rd h b 11 = b + 10 → rd h b 19 = b + 13 → ∃ v g, EI X (d + 1) 18 25 [some (.inr (.inr b)), some (.inl i)] [] S h = some (v, S, g) ∧ (∀ c j, 0 ≤ c → 0 ≤ j → (c ≠ b ∨ j < 14 ∨ 18 < j) → c ≠ b + 10 → (c ≠ b + 13 ∨ 1 < j) → rd g c j = rd h c j) ∧ rd g b 14 = -1 ∧ rd g (b + 13) 0 = 0 ∧ rd g (b + 13) 1 = 0 := by
  have gb : ∀ (h : Mem) (j : Nat), getf S h 1 b j = some (rd h b j) := fun h j => by
    unfold getf
    rw [if_pos k1]
    rfl
  have pb : ∀ (h : Mem) (j : Nat) (x : Int), putf S h 1 b j x = some (wr h b j x) := fun h j x => by
    unfold putf
    rw [if_pos k1]
    rfl
  have py : ∀ (h : Mem) (j : Nat) (x : Int), putf S h 8 (b + 13) j x = some (wr h (b + 13) j x) := fun h j x => by
    unfold putf
    rw [if_pos k4]
    rfl
  have al : aln X S (b + 10) = some 36 := by
    unfold aln
    rw [if_neg (by omega), k2, if_pos (by decide), k3]
    rfl
  intro k
  induction k with
  | zero =>
    intro i h hk i0 h11 h19
    have h11' : rd h b ((11 : Nat) : Int) = b + 10 := h11
    have e43 : MI X d 43 [.inr (.inr b)] S h = some (0, S, wr (wr (wr (wr (wr h b 14 (-1)) b 15 (-1)) b 16 0) b 17 0) b 18 0) := by
      rw [e_43, pb, oK_some, pb, oK_some, pb, oK_some, pb, oK_some, pb, oK_some]
      rfl
    have fr : ∀ c j, 0 ≤ c → 0 ≤ j → (c ≠ b ∨ j < 14 ∨ 18 < j) → rd (wr (wr (wr (wr (wr h b 14 (-1)) b 15 (-1)) b 16 0) b 17 0) b 18 0) c j = rd h c j := fun c j x y z => by
      by_cases e : c = b
      · subst e
        rw [rd_wr_ix _ _ (by omega) y (by omega), rd_wr_ix _ _ (by omega) y (by omega), rd_wr_ix _ _ (by omega) y (by omega), rd_wr_ix _ _ (by omega) y (by omega), rd_wr_ix _ _ (by omega) y (by omega)]
      · rw [rd_wr_ne _ _ _ _ b0 x e, rd_wr_ne _ _ _ _ b0 x e, rd_wr_ne _ _ _ _ b0 x e, rd_wr_ne _ _ _ _ b0 x e, rd_wr_ne _ _ _ _ b0 x e]
    have h14 : rd (wr (wr (wr (wr (wr h b 14 (-1)) b 15 (-1)) b 16 0) b 17 0) b 18 0) b 14 = -1 := by
      rw [rd_wr_ix _ _ (by omega) (by omega) (by omega), rd_wr_ix _ _ (by omega) (by omega) (by omega), rd_wr_ix _ _ (by omega) (by omega) (by omega), rd_wr_ix _ _ (by omega) (by omega) (by omega)]
      exact rd_wr_eq _ _ _ _
    generalize wr (wr (wr (wr (wr h b 14 (-1)) b 15 (-1)) b 16 0) b 17 0) b 18 0 = g at e43 fr h14
    have g19 : rd g b ((19 : Nat) : Int) = b + 13 := (fr b 19 b0 (by omega) (by omega)).trans h19
    have e114 : MI X d 114 [.inr (.inr (b + 13))] S g = some (0, S, wr (wr g (b + 13) 0 0) (b + 13) 1 0) := by
      rw [e_114, show unV 3 (.inl 0) = some 0 from rfl, oK_some, py, oK_some, py, oK_some]
      rfl
    rw [e_18_25, gb, oK_some, h11', al, oK_some, if_neg (by omega), if_pos k1, oC_of e43, gb, oK_some, g19, if_pos k4, oC_of e114]
    refine ⟨_, _, rfl, fun c j x y z w u => ?_, ?_, ?_, rd_wr_eq _ _ _ _⟩
    · rw [← fr c j x y z]
      by_cases e : c = b + 13
      · subst e
        rw [rd_wr_ix _ _ (by omega) y (by omega), rd_wr_ix _ _ (by omega) y (by omega)]
      · rw [rd_wr_ne _ _ _ _ (by omega) x e, rd_wr_ne _ _ _ _ (by omega) x e]
    · rw [rd_wr_ne _ _ _ _ (by omega) b0 (by omega), rd_wr_ne _ _ _ _ (by omega) b0 (by omega)]; exact h14
    · rw [rd_wr_ix _ _ (by omega) (by omega) (by omega)]; exact rd_wr_eq _ _ _ _
  | succ k ih =>
    intro i h hk i0 h11 h19
    have h11' : rd h b ((11 : Nat) : Int) = b + 10 := h11
    have a : ast S h 20 (b + 10) i 0 = some (wr h (b + 10) i 0) := by
      unfold ast
      rw [if_pos ⟨k2, i0, by rw [k3]; omega⟩]
      rfl
    rw [e_18_25, gb, oK_some, h11', al, oK_some, if_pos (by omega), oK_some, a, oK_some, w32_id (x := i + 1) (by omega) (by omega)]
    obtain ⟨v, g, e, f, r⟩ := ih (i + 1) (wr h (b + 10) i 0) (by omega) (by omega) (by rw [rd_wr_ne _ _ _ _ (by omega) b0 (by omega)]; exact h11) (by rw [rd_wr_ne _ _ _ _ (by omega) b0 (by omega)]; exact h19)
    exact ⟨v, g, e, fun c j x y z w u => (f c j x y z w u).trans (rd_wr_ne _ _ _ _ (by omega) x w), r⟩

theorem n_113_19 (h : Mem) : Sk 40 (fun g => Fn 32 40 h g ∧ Rq [(32, 8, 39), (32, 7, 38), (32, 6, 37), (32, 5, 36), (32, 4, 35), (32, 3, 34), (32, 2, 33)] g) (MI X d 113 [.inr (.inr 32)] (Tk 33) h) := by
  rw [e_113]
  simp (disch := decide) only [Tk_app, Nat.reduceAdd, Tk_len, nlit]
  have fn := @Fn_rf 32 40 h
  have q := @Rq_nil h
  refine s_kd rfl ?_
  refine s_un2 (by decide) ?_
  refine s_putq 2 rfl rfl (by decide) fn q (by decide) (by decide +kernel) fun h fn q => ?_
  refine s_un2 (by decide) ?_
  refine s_putq 3 rfl rfl (by decide) fn q (by decide) (by decide +kernel) fun h fn q => ?_
  refine s_un2 (by decide) ?_
  refine s_putq 4 rfl rfl (by decide) fn q (by decide) (by decide +kernel) fun h fn q => ?_
  refine s_un2 (by decide) ?_
  refine s_putq 5 rfl rfl (by decide) fn q (by decide) (by decide +kernel) fun h fn q => ?_
  refine s_un2 (by decide) ?_
  refine s_putq 6 rfl rfl (by decide) fn q (by decide) (by decide +kernel) fun h fn q => ?_
  refine s_un2 (by decide) ?_
  refine s_putq 7 rfl rfl (by decide) fn q (by decide) (by decide +kernel) fun h fn q => ?_
  refine s_un2 (by decide) ?_
  refine s_putq 8 rfl rfl (by decide) fn q (by decide) (by decide +kernel) fun h fn q => ?_
  exact Sk_some ⟨fn, q⟩

theorem n_17_19 (h : Mem) : Sk 40 (fun g => Fn 19 40 h g ∧ Rq [(19, 2, 20), (19, 3, 21), (19, 4, 22), (19, 5, 23), (19, 6, 24), (19, 7, 25), (19, 8, 26), (19, 9, 27), (19, 10, 28), (19, 11, 29), (19, 12, 30), (19, 13, 31), (19, 19, 32), (32, 2, 33), (32, 3, 34), (32, 4, 35), (32, 5, 36), (32, 6, 37), (32, 7, 38), (32, 8, 39), (19, 0, 0), (19, 1, 0), (19, 14, -1), (20, 0, 6), (20, 1, 0), (20, 2, 2), (20, 3, 2), (32, 0, 0), (32, 1, 0)] g) (MI X (d + 3) 17 [.inr (.inr 19)] (Tk 20) h) := by
  rw [e_17]
  simp (disch := decide) only [Tk_app, Nat.reduceAdd, Tk_len, nlit]
  have fn := @Fn_rf 19 40 h
  have q := @Rq_nil h
  refine s_kd rfl ?_
  refine s_un2 (by decide) ?_
  refine s_putq 2 rfl rfl (by decide) fn q (by decide) (by decide +kernel) fun h fn q => ?_
  refine s_un2 (by decide) ?_
  refine s_putq 3 rfl rfl (by decide) fn q (by decide) (by decide +kernel) fun h fn q => ?_
  refine s_un2 (by decide) ?_
  refine s_putq 4 rfl rfl (by decide) fn q (by decide) (by decide +kernel) fun h fn q => ?_
  refine s_un2 (by decide) ?_
  refine s_putq 5 rfl rfl (by decide) fn q (by decide) (by decide +kernel) fun h fn q => ?_
  refine s_un2 (by decide) ?_
  refine s_putq 6 rfl rfl (by decide) fn q (by decide) (by decide +kernel) fun h fn q => ?_
  refine s_un2 (by decide) ?_
  refine s_putq 7 rfl rfl (by decide) fn q (by decide) (by decide +kernel) fun h fn q => ?_
  refine s_un2 (by decide) ?_
  refine s_putq 8 rfl rfl (by decide) fn q (by decide) (by decide +kernel) fun h fn q => ?_
  refine s_un2 (by decide) ?_
  refine s_putq 9 rfl rfl (by decide) fn q (by decide) (by decide +kernel) fun h fn q => ?_
  refine s_un2 (by decide) ?_
  refine s_putq 10 rfl rfl (by decide) fn q (by decide) (by decide +kernel) fun h fn q => ?_
  refine s_un2 (by decide) ?_
  refine s_putq 11 rfl rfl (by decide) fn q (by decide) (by decide +kernel) fun h fn q => ?_
  refine s_un2 (by decide) ?_
  refine s_putq 12 rfl rfl (by decide) fn q (by decide) (by decide +kernel) fun h fn q => ?_
  refine s_un2 (by decide) ?_
  refine s_putq 13 rfl rfl (by decide) fn q (by decide) (by decide +kernel) fun h fn q => ?_
  refine s_kd rfl ?_
  refine Sk_o (n_113_19 (X := X) (d := d + 2) h) fun v h hq => ?_
  replace fn := Fn_tr fn hq.1 (by decide) (by decide)
  replace q := Rq_ap (Rq_fn q hq.1 (by decide +kernel)) hq.2
  refine s_un2 (by decide) ?_
  refine s_putq 19 rfl rfl (by decide) fn q (by decide) (by decide +kernel) fun h fn q => ?_
  refine s_kd rfl ?_
  refine Sk_o (k' := 40) (Q := fun g => Fn 19 40 h g ∧ Rq [(19, 2, 20), (19, 3, 21), (19, 4, 22), (19, 5, 23), (19, 6, 24), (19, 7, 25), (19, 8, 26), (19, 9, 27), (19, 10, 28), (19, 11, 29), (19, 12, 30), (19, 13, 31), (19, 19, 32), (32, 2, 33), (32, 3, 34), (32, 4, 35), (32, 5, 36), (32, 6, 37), (32, 7, 38), (32, 8, 39), (19, 0, 0), (19, 1, 0), (19, 14, -1), (20, 0, 6), (20, 1, 0), (20, 2, 2), (20, 3, 2), (32, 0, 0), (32, 1, 0)] g) ?_ fun v g hq => ?_
  · (try dsimp only)
    (try dsimp only)
    rw [e_18]
    have fn1 := @Fn_rf 19 40 h
    refine s_putq 0 rfl rfl (by decide) fn1 q (by decide) (by decide +kernel) fun h1 fn1 q1 => ?_
    refine s_putq 1 rfl rfl (by decide) fn1 q1 (by decide) (by decide +kernel) fun h1 fn1 q1 => ?_
    refine s_getq 2 20 rfl rfl q1 (by decide +kernel) ?_
    have ea : acp X (Tk 40) h1 (-5) 0 20 0 4 = some (cpy h1 20 (am_ro X (-5)).2 0 0 4) := by
      unfold acp
      rw [if_pos rfl, if_pos ⟨rfl, by decide, by decide, by decide, by decide, by decide⟩]
      rfl
    (try dsimp only)
    rw [ea, oK_some]
    have fc : Fn 20 21 h1 (cpy h1 20 (am_ro X (-5)).2 0 0 4) := fun c j x y z => if_neg (fun w => by have := w.1; omega)
    have c0 : rd (cpy h1 20 (am_ro X (-5)).2 0 0 4) 20 0 = 6 := rfl
    have c1 : rd (cpy h1 20 (am_ro X (-5)).2 0 0 4) 20 1 = 0 := rfl
    have c2 : rd (cpy h1 20 (am_ro X (-5)).2 0 0 4) 20 2 = 2 := rfl
    have c3 : rd (cpy h1 20 (am_ro X (-5)).2 0 0 4) 20 3 = 2 := rfl
    generalize cpy h1 20 (am_ro X (-5)).2 0 0 4 = h2 at fc c0 c1 c2 c3 ⊢
    have q2 := Rq_fn q1 fc (by decide +kernel)
    obtain ⟨v, g, eg, fg, g1, g2, g3⟩ := n_18_l (X := X) (d := d + 1) (S := Tk 40) (b := 19) (by decide) rfl rfl rfl rfl 36 0 h2 rfl (by decide) (Rq_has q2 (by decide +kernel)) (Rq_has q2 (by decide +kernel))
    refine ⟨v, g, eg, fun c j x y z => ?_, ?_⟩
    · rw [fg c j x y (by omega) (by omega) (by omega), fc c j x y (by omega), fn1 c j x y z]
    · have q3 : Rq [(19, 2, 20), (19, 3, 21), (19, 4, 22), (19, 5, 23), (19, 6, 24), (19, 7, 25), (19, 8, 26), (19, 9, 27), (19, 10, 28), (19, 11, 29), (19, 12, 30), (19, 13, 31), (19, 19, 32), (32, 2, 33), (32, 3, 34), (32, 4, 35), (32, 5, 36), (32, 6, 37), (32, 7, 38), (32, 8, 39), (19, 0, 0), (19, 1, 0)] g := fun p m => by
        have m2 := List.all_eq_true.mp (show (([(19, 2, 20), (19, 3, 21), (19, 4, 22), (19, 5, 23), (19, 6, 24), (19, 7, 25), (19, 8, 26), (19, 9, 27), (19, 10, 28), (19, 11, 29), (19, 12, 30), (19, 13, 31), (19, 19, 32), (32, 2, 33), (32, 3, 34), (32, 4, 35), (32, 5, 36), (32, 6, 37), (32, 7, 38), (32, 8, 39), (19, 0, 0), (19, 1, 0)] : List Fc).all fun p => decide (0 ≤ p.1) && decide (0 ≤ p.2.1) && (decide (p.1 ≠ 19) || decide (p.2.1 < 14) || decide (18 < p.2.1)) && decide (p.1 ≠ 29) && (decide (p.1 ≠ 32) || decide (1 < p.2.1))) = true by decide +kernel) p m
        simp only [Bool.and_eq_true, Bool.or_eq_true, decide_eq_true_eq] at m2
        rw [fg _ _ m2.1.1.1.1 m2.1.1.1.2 (by omega) m2.1.2 (by omega)]
        exact Rq_sub q2 (L' := [(19, 2, 20), (19, 3, 21), (19, 4, 22), (19, 5, 23), (19, 6, 24), (19, 7, 25), (19, 8, 26), (19, 9, 27), (19, 10, 28), (19, 11, 29), (19, 12, 30), (19, 13, 31), (19, 19, 32), (32, 2, 33), (32, 3, 34), (32, 4, 35), (32, 5, 36), (32, 6, 37), (32, 7, 38), (32, 8, 39), (19, 0, 0), (19, 1, 0)]) (by decide +kernel) p m
      have q4 : Rq [(20, 0, 6), (20, 1, 0), (20, 2, 2), (20, 3, 2), (19, 14, -1), (32, 0, 0), (32, 1, 0)] g := by
        intro p m
        simp only [List.mem_cons, List.not_mem_nil, or_false] at m
        rcases m with rfl | rfl | rfl | rfl | rfl | rfl | rfl
        · exact (fg _ _ (by decide) (by decide) (by decide) (by decide) (by decide)).trans c0
        · exact (fg _ _ (by decide) (by decide) (by decide) (by decide) (by decide)).trans c1
        · exact (fg _ _ (by decide) (by decide) (by decide) (by decide) (by decide)).trans c2
        · exact (fg _ _ (by decide) (by decide) (by decide) (by decide) (by decide)).trans c3
        · exact g1
        · exact g2
        · exact g3
      exact Rq_sub (Rq_ap q3 q4) (by decide +kernel)
  exact Sk_some ⟨Fn_tr fn hq.1 (by decide) (by decide), hq.2⟩

theorem n_113_40 (h : Mem) : Sk 61 (fun g => Fn 53 61 h g ∧ Rq [(53, 8, 60), (53, 7, 59), (53, 6, 58), (53, 5, 57), (53, 4, 56), (53, 3, 55), (53, 2, 54)] g) (MI X d 113 [.inr (.inr 53)] (Tk 54) h) := by
  rw [e_113]
  simp (disch := decide) only [Tk_app, Nat.reduceAdd, Tk_len, nlit]
  have fn := @Fn_rf 53 61 h
  have q := @Rq_nil h
  refine s_kd rfl ?_
  refine s_un2 (by decide) ?_
  refine s_putq 2 rfl rfl (by decide) fn q (by decide) (by decide +kernel) fun h fn q => ?_
  refine s_un2 (by decide) ?_
  refine s_putq 3 rfl rfl (by decide) fn q (by decide) (by decide +kernel) fun h fn q => ?_
  refine s_un2 (by decide) ?_
  refine s_putq 4 rfl rfl (by decide) fn q (by decide) (by decide +kernel) fun h fn q => ?_
  refine s_un2 (by decide) ?_
  refine s_putq 5 rfl rfl (by decide) fn q (by decide) (by decide +kernel) fun h fn q => ?_
  refine s_un2 (by decide) ?_
  refine s_putq 6 rfl rfl (by decide) fn q (by decide) (by decide +kernel) fun h fn q => ?_
  refine s_un2 (by decide) ?_
  refine s_putq 7 rfl rfl (by decide) fn q (by decide) (by decide +kernel) fun h fn q => ?_
  refine s_un2 (by decide) ?_
  refine s_putq 8 rfl rfl (by decide) fn q (by decide) (by decide +kernel) fun h fn q => ?_
  exact Sk_some ⟨fn, q⟩

theorem n_17_40 (h : Mem) : Sk 61 (fun g => Fn 40 61 h g ∧ Rq [(40, 2, 41), (40, 3, 42), (40, 4, 43), (40, 5, 44), (40, 6, 45), (40, 7, 46), (40, 8, 47), (40, 9, 48), (40, 10, 49), (40, 11, 50), (40, 12, 51), (40, 13, 52), (40, 19, 53), (53, 2, 54), (53, 3, 55), (53, 4, 56), (53, 5, 57), (53, 6, 58), (53, 7, 59), (53, 8, 60), (40, 0, 0), (40, 1, 0), (40, 14, -1), (41, 0, 6), (41, 1, 0), (41, 2, 2), (41, 3, 2), (53, 0, 0), (53, 1, 0)] g) (MI X (d + 3) 17 [.inr (.inr 40)] (Tk 41) h) := by
  rw [e_17]
  simp (disch := decide) only [Tk_app, Nat.reduceAdd, Tk_len, nlit]
  have fn := @Fn_rf 40 61 h
  have q := @Rq_nil h
  refine s_kd rfl ?_
  refine s_un2 (by decide) ?_
  refine s_putq 2 rfl rfl (by decide) fn q (by decide) (by decide +kernel) fun h fn q => ?_
  refine s_un2 (by decide) ?_
  refine s_putq 3 rfl rfl (by decide) fn q (by decide) (by decide +kernel) fun h fn q => ?_
  refine s_un2 (by decide) ?_
  refine s_putq 4 rfl rfl (by decide) fn q (by decide) (by decide +kernel) fun h fn q => ?_
  refine s_un2 (by decide) ?_
  refine s_putq 5 rfl rfl (by decide) fn q (by decide) (by decide +kernel) fun h fn q => ?_
  refine s_un2 (by decide) ?_
  refine s_putq 6 rfl rfl (by decide) fn q (by decide) (by decide +kernel) fun h fn q => ?_
  refine s_un2 (by decide) ?_
  refine s_putq 7 rfl rfl (by decide) fn q (by decide) (by decide +kernel) fun h fn q => ?_
  refine s_un2 (by decide) ?_
  refine s_putq 8 rfl rfl (by decide) fn q (by decide) (by decide +kernel) fun h fn q => ?_
  refine s_un2 (by decide) ?_
  refine s_putq 9 rfl rfl (by decide) fn q (by decide) (by decide +kernel) fun h fn q => ?_
  refine s_un2 (by decide) ?_
  refine s_putq 10 rfl rfl (by decide) fn q (by decide) (by decide +kernel) fun h fn q => ?_
  refine s_un2 (by decide) ?_
  refine s_putq 11 rfl rfl (by decide) fn q (by decide) (by decide +kernel) fun h fn q => ?_
  refine s_un2 (by decide) ?_
  refine s_putq 12 rfl rfl (by decide) fn q (by decide) (by decide +kernel) fun h fn q => ?_
  refine s_un2 (by decide) ?_
  refine s_putq 13 rfl rfl (by decide) fn q (by decide) (by decide +kernel) fun h fn q => ?_
  refine s_kd rfl ?_
  refine Sk_o (n_113_40 (X := X) (d := d + 2) h) fun v h hq => ?_
  replace fn := Fn_tr fn hq.1 (by decide) (by decide)
  replace q := Rq_ap (Rq_fn q hq.1 (by decide +kernel)) hq.2
  refine s_un2 (by decide) ?_
  refine s_putq 19 rfl rfl (by decide) fn q (by decide) (by decide +kernel) fun h fn q => ?_
  refine s_kd rfl ?_
  refine Sk_o (k' := 61) (Q := fun g => Fn 40 61 h g ∧ Rq [(40, 2, 41), (40, 3, 42), (40, 4, 43), (40, 5, 44), (40, 6, 45), (40, 7, 46), (40, 8, 47), (40, 9, 48), (40, 10, 49), (40, 11, 50), (40, 12, 51), (40, 13, 52), (40, 19, 53), (53, 2, 54), (53, 3, 55), (53, 4, 56), (53, 5, 57), (53, 6, 58), (53, 7, 59), (53, 8, 60), (40, 0, 0), (40, 1, 0), (40, 14, -1), (41, 0, 6), (41, 1, 0), (41, 2, 2), (41, 3, 2), (53, 0, 0), (53, 1, 0)] g) ?_ fun v g hq => ?_
  · (try dsimp only)
    (try dsimp only)
    rw [e_18]
    have fn1 := @Fn_rf 40 61 h
    refine s_putq 0 rfl rfl (by decide) fn1 q (by decide) (by decide +kernel) fun h1 fn1 q1 => ?_
    refine s_putq 1 rfl rfl (by decide) fn1 q1 (by decide) (by decide +kernel) fun h1 fn1 q1 => ?_
    refine s_getq 2 41 rfl rfl q1 (by decide +kernel) ?_
    have ea : acp X (Tk 61) h1 (-5) 0 41 0 4 = some (cpy h1 41 (am_ro X (-5)).2 0 0 4) := by
      unfold acp
      rw [if_pos rfl, if_pos ⟨rfl, by decide, by decide, by decide, by decide, by decide⟩]
      rfl
    (try dsimp only)
    rw [ea, oK_some]
    have fc : Fn 41 42 h1 (cpy h1 41 (am_ro X (-5)).2 0 0 4) := fun c j x y z => if_neg (fun w => by have := w.1; omega)
    have c0 : rd (cpy h1 41 (am_ro X (-5)).2 0 0 4) 41 0 = 6 := rfl
    have c1 : rd (cpy h1 41 (am_ro X (-5)).2 0 0 4) 41 1 = 0 := rfl
    have c2 : rd (cpy h1 41 (am_ro X (-5)).2 0 0 4) 41 2 = 2 := rfl
    have c3 : rd (cpy h1 41 (am_ro X (-5)).2 0 0 4) 41 3 = 2 := rfl
    generalize cpy h1 41 (am_ro X (-5)).2 0 0 4 = h2 at fc c0 c1 c2 c3 ⊢
    have q2 := Rq_fn q1 fc (by decide +kernel)
    obtain ⟨v, g, eg, fg, g1, g2, g3⟩ := n_18_l (X := X) (d := d + 1) (S := Tk 61) (b := 40) (by decide) rfl rfl rfl rfl 36 0 h2 rfl (by decide) (Rq_has q2 (by decide +kernel)) (Rq_has q2 (by decide +kernel))
    refine ⟨v, g, eg, fun c j x y z => ?_, ?_⟩
    · rw [fg c j x y (by omega) (by omega) (by omega), fc c j x y (by omega), fn1 c j x y z]
    · have q3 : Rq [(40, 2, 41), (40, 3, 42), (40, 4, 43), (40, 5, 44), (40, 6, 45), (40, 7, 46), (40, 8, 47), (40, 9, 48), (40, 10, 49), (40, 11, 50), (40, 12, 51), (40, 13, 52), (40, 19, 53), (53, 2, 54), (53, 3, 55), (53, 4, 56), (53, 5, 57), (53, 6, 58), (53, 7, 59), (53, 8, 60), (40, 0, 0), (40, 1, 0)] g := fun p m => by
        have m2 := List.all_eq_true.mp (show (([(40, 2, 41), (40, 3, 42), (40, 4, 43), (40, 5, 44), (40, 6, 45), (40, 7, 46), (40, 8, 47), (40, 9, 48), (40, 10, 49), (40, 11, 50), (40, 12, 51), (40, 13, 52), (40, 19, 53), (53, 2, 54), (53, 3, 55), (53, 4, 56), (53, 5, 57), (53, 6, 58), (53, 7, 59), (53, 8, 60), (40, 0, 0), (40, 1, 0)] : List Fc).all fun p => decide (0 ≤ p.1) && decide (0 ≤ p.2.1) && (decide (p.1 ≠ 40) || decide (p.2.1 < 14) || decide (18 < p.2.1)) && decide (p.1 ≠ 50) && (decide (p.1 ≠ 53) || decide (1 < p.2.1))) = true by decide +kernel) p m
        simp only [Bool.and_eq_true, Bool.or_eq_true, decide_eq_true_eq] at m2
        rw [fg _ _ m2.1.1.1.1 m2.1.1.1.2 (by omega) m2.1.2 (by omega)]
        exact Rq_sub q2 (L' := [(40, 2, 41), (40, 3, 42), (40, 4, 43), (40, 5, 44), (40, 6, 45), (40, 7, 46), (40, 8, 47), (40, 9, 48), (40, 10, 49), (40, 11, 50), (40, 12, 51), (40, 13, 52), (40, 19, 53), (53, 2, 54), (53, 3, 55), (53, 4, 56), (53, 5, 57), (53, 6, 58), (53, 7, 59), (53, 8, 60), (40, 0, 0), (40, 1, 0)]) (by decide +kernel) p m
      have q4 : Rq [(41, 0, 6), (41, 1, 0), (41, 2, 2), (41, 3, 2), (40, 14, -1), (53, 0, 0), (53, 1, 0)] g := by
        intro p m
        simp only [List.mem_cons, List.not_mem_nil, or_false] at m
        rcases m with rfl | rfl | rfl | rfl | rfl | rfl | rfl
        · exact (fg _ _ (by decide) (by decide) (by decide) (by decide) (by decide)).trans c0
        · exact (fg _ _ (by decide) (by decide) (by decide) (by decide) (by decide)).trans c1
        · exact (fg _ _ (by decide) (by decide) (by decide) (by decide) (by decide)).trans c2
        · exact (fg _ _ (by decide) (by decide) (by decide) (by decide) (by decide)).trans c3
        · exact g1
        · exact g2
        · exact g3
      exact Rq_sub (Rq_ap q3 q4) (by decide +kernel)
  exact Sk_some ⟨Fn_tr fn hq.1 (by decide) (by decide), hq.2⟩

theorem n_113_62 (h : Mem) : Sk 83 (fun g => Fn 75 83 h g ∧ Rq [(75, 8, 82), (75, 7, 81), (75, 6, 80), (75, 5, 79), (75, 4, 78), (75, 3, 77), (75, 2, 76)] g) (MI X d 113 [.inr (.inr 75)] (Tk 76) h) := by
  rw [e_113]
  simp (disch := decide) only [Tk_app, Nat.reduceAdd, Tk_len, nlit]
  have fn := @Fn_rf 75 83 h
  have q := @Rq_nil h
  refine s_kd rfl ?_
  refine s_un2 (by decide) ?_
  refine s_putq 2 rfl rfl (by decide) fn q (by decide) (by decide +kernel) fun h fn q => ?_
  refine s_un2 (by decide) ?_
  refine s_putq 3 rfl rfl (by decide) fn q (by decide) (by decide +kernel) fun h fn q => ?_
  refine s_un2 (by decide) ?_
  refine s_putq 4 rfl rfl (by decide) fn q (by decide) (by decide +kernel) fun h fn q => ?_
  refine s_un2 (by decide) ?_
  refine s_putq 5 rfl rfl (by decide) fn q (by decide) (by decide +kernel) fun h fn q => ?_
  refine s_un2 (by decide) ?_
  refine s_putq 6 rfl rfl (by decide) fn q (by decide) (by decide +kernel) fun h fn q => ?_
  refine s_un2 (by decide) ?_
  refine s_putq 7 rfl rfl (by decide) fn q (by decide) (by decide +kernel) fun h fn q => ?_
  refine s_un2 (by decide) ?_
  refine s_putq 8 rfl rfl (by decide) fn q (by decide) (by decide +kernel) fun h fn q => ?_
  exact Sk_some ⟨fn, q⟩

theorem n_17_62 (h : Mem) : Sk 83 (fun g => Fn 62 83 h g ∧ Rq [(62, 2, 63), (62, 3, 64), (62, 4, 65), (62, 5, 66), (62, 6, 67), (62, 7, 68), (62, 8, 69), (62, 9, 70), (62, 10, 71), (62, 11, 72), (62, 12, 73), (62, 13, 74), (62, 19, 75), (75, 2, 76), (75, 3, 77), (75, 4, 78), (75, 5, 79), (75, 6, 80), (75, 7, 81), (75, 8, 82), (62, 0, 0), (62, 1, 0), (62, 14, -1), (63, 0, 6), (63, 1, 0), (63, 2, 2), (63, 3, 2), (75, 0, 0), (75, 1, 0)] g) (MI X (d + 3) 17 [.inr (.inr 62)] (Tk 63) h) := by
  rw [e_17]
  simp (disch := decide) only [Tk_app, Nat.reduceAdd, Tk_len, nlit]
  have fn := @Fn_rf 62 83 h
  have q := @Rq_nil h
  refine s_kd rfl ?_
  refine s_un2 (by decide) ?_
  refine s_putq 2 rfl rfl (by decide) fn q (by decide) (by decide +kernel) fun h fn q => ?_
  refine s_un2 (by decide) ?_
  refine s_putq 3 rfl rfl (by decide) fn q (by decide) (by decide +kernel) fun h fn q => ?_
  refine s_un2 (by decide) ?_
  refine s_putq 4 rfl rfl (by decide) fn q (by decide) (by decide +kernel) fun h fn q => ?_
  refine s_un2 (by decide) ?_
  refine s_putq 5 rfl rfl (by decide) fn q (by decide) (by decide +kernel) fun h fn q => ?_
  refine s_un2 (by decide) ?_
  refine s_putq 6 rfl rfl (by decide) fn q (by decide) (by decide +kernel) fun h fn q => ?_
  refine s_un2 (by decide) ?_
  refine s_putq 7 rfl rfl (by decide) fn q (by decide) (by decide +kernel) fun h fn q => ?_
  refine s_un2 (by decide) ?_
  refine s_putq 8 rfl rfl (by decide) fn q (by decide) (by decide +kernel) fun h fn q => ?_
  refine s_un2 (by decide) ?_
  refine s_putq 9 rfl rfl (by decide) fn q (by decide) (by decide +kernel) fun h fn q => ?_
  refine s_un2 (by decide) ?_
  refine s_putq 10 rfl rfl (by decide) fn q (by decide) (by decide +kernel) fun h fn q => ?_
  refine s_un2 (by decide) ?_
  refine s_putq 11 rfl rfl (by decide) fn q (by decide) (by decide +kernel) fun h fn q => ?_
  refine s_un2 (by decide) ?_
  refine s_putq 12 rfl rfl (by decide) fn q (by decide) (by decide +kernel) fun h fn q => ?_
  refine s_un2 (by decide) ?_
  refine s_putq 13 rfl rfl (by decide) fn q (by decide) (by decide +kernel) fun h fn q => ?_
  refine s_kd rfl ?_
  refine Sk_o (n_113_62 (X := X) (d := d + 2) h) fun v h hq => ?_
  replace fn := Fn_tr fn hq.1 (by decide) (by decide)
  replace q := Rq_ap (Rq_fn q hq.1 (by decide +kernel)) hq.2
  refine s_un2 (by decide) ?_
  refine s_putq 19 rfl rfl (by decide) fn q (by decide) (by decide +kernel) fun h fn q => ?_
  refine s_kd rfl ?_
  refine Sk_o (k' := 83) (Q := fun g => Fn 62 83 h g ∧ Rq [(62, 2, 63), (62, 3, 64), (62, 4, 65), (62, 5, 66), (62, 6, 67), (62, 7, 68), (62, 8, 69), (62, 9, 70), (62, 10, 71), (62, 11, 72), (62, 12, 73), (62, 13, 74), (62, 19, 75), (75, 2, 76), (75, 3, 77), (75, 4, 78), (75, 5, 79), (75, 6, 80), (75, 7, 81), (75, 8, 82), (62, 0, 0), (62, 1, 0), (62, 14, -1), (63, 0, 6), (63, 1, 0), (63, 2, 2), (63, 3, 2), (75, 0, 0), (75, 1, 0)] g) ?_ fun v g hq => ?_
  · (try dsimp only)
    (try dsimp only)
    rw [e_18]
    have fn1 := @Fn_rf 62 83 h
    refine s_putq 0 rfl rfl (by decide) fn1 q (by decide) (by decide +kernel) fun h1 fn1 q1 => ?_
    refine s_putq 1 rfl rfl (by decide) fn1 q1 (by decide) (by decide +kernel) fun h1 fn1 q1 => ?_
    refine s_getq 2 63 rfl rfl q1 (by decide +kernel) ?_
    have ea : acp X (Tk 83) h1 (-5) 0 63 0 4 = some (cpy h1 63 (am_ro X (-5)).2 0 0 4) := by
      unfold acp
      rw [if_pos rfl, if_pos ⟨rfl, by decide, by decide, by decide, by decide, by decide⟩]
      rfl
    (try dsimp only)
    rw [ea, oK_some]
    have fc : Fn 63 64 h1 (cpy h1 63 (am_ro X (-5)).2 0 0 4) := fun c j x y z => if_neg (fun w => by have := w.1; omega)
    have c0 : rd (cpy h1 63 (am_ro X (-5)).2 0 0 4) 63 0 = 6 := rfl
    have c1 : rd (cpy h1 63 (am_ro X (-5)).2 0 0 4) 63 1 = 0 := rfl
    have c2 : rd (cpy h1 63 (am_ro X (-5)).2 0 0 4) 63 2 = 2 := rfl
    have c3 : rd (cpy h1 63 (am_ro X (-5)).2 0 0 4) 63 3 = 2 := rfl
    generalize cpy h1 63 (am_ro X (-5)).2 0 0 4 = h2 at fc c0 c1 c2 c3 ⊢
    have q2 := Rq_fn q1 fc (by decide +kernel)
    obtain ⟨v, g, eg, fg, g1, g2, g3⟩ := n_18_l (X := X) (d := d + 1) (S := Tk 83) (b := 62) (by decide) rfl rfl rfl rfl 36 0 h2 rfl (by decide) (Rq_has q2 (by decide +kernel)) (Rq_has q2 (by decide +kernel))
    refine ⟨v, g, eg, fun c j x y z => ?_, ?_⟩
    · rw [fg c j x y (by omega) (by omega) (by omega), fc c j x y (by omega), fn1 c j x y z]
    · have q3 : Rq [(62, 2, 63), (62, 3, 64), (62, 4, 65), (62, 5, 66), (62, 6, 67), (62, 7, 68), (62, 8, 69), (62, 9, 70), (62, 10, 71), (62, 11, 72), (62, 12, 73), (62, 13, 74), (62, 19, 75), (75, 2, 76), (75, 3, 77), (75, 4, 78), (75, 5, 79), (75, 6, 80), (75, 7, 81), (75, 8, 82), (62, 0, 0), (62, 1, 0)] g := fun p m => by
        have m2 := List.all_eq_true.mp (show (([(62, 2, 63), (62, 3, 64), (62, 4, 65), (62, 5, 66), (62, 6, 67), (62, 7, 68), (62, 8, 69), (62, 9, 70), (62, 10, 71), (62, 11, 72), (62, 12, 73), (62, 13, 74), (62, 19, 75), (75, 2, 76), (75, 3, 77), (75, 4, 78), (75, 5, 79), (75, 6, 80), (75, 7, 81), (75, 8, 82), (62, 0, 0), (62, 1, 0)] : List Fc).all fun p => decide (0 ≤ p.1) && decide (0 ≤ p.2.1) && (decide (p.1 ≠ 62) || decide (p.2.1 < 14) || decide (18 < p.2.1)) && decide (p.1 ≠ 72) && (decide (p.1 ≠ 75) || decide (1 < p.2.1))) = true by decide +kernel) p m
        simp only [Bool.and_eq_true, Bool.or_eq_true, decide_eq_true_eq] at m2
        rw [fg _ _ m2.1.1.1.1 m2.1.1.1.2 (by omega) m2.1.2 (by omega)]
        exact Rq_sub q2 (L' := [(62, 2, 63), (62, 3, 64), (62, 4, 65), (62, 5, 66), (62, 6, 67), (62, 7, 68), (62, 8, 69), (62, 9, 70), (62, 10, 71), (62, 11, 72), (62, 12, 73), (62, 13, 74), (62, 19, 75), (75, 2, 76), (75, 3, 77), (75, 4, 78), (75, 5, 79), (75, 6, 80), (75, 7, 81), (75, 8, 82), (62, 0, 0), (62, 1, 0)]) (by decide +kernel) p m
      have q4 : Rq [(63, 0, 6), (63, 1, 0), (63, 2, 2), (63, 3, 2), (62, 14, -1), (75, 0, 0), (75, 1, 0)] g := by
        intro p m
        simp only [List.mem_cons, List.not_mem_nil, or_false] at m
        rcases m with rfl | rfl | rfl | rfl | rfl | rfl | rfl
        · exact (fg _ _ (by decide) (by decide) (by decide) (by decide) (by decide)).trans c0
        · exact (fg _ _ (by decide) (by decide) (by decide) (by decide) (by decide)).trans c1
        · exact (fg _ _ (by decide) (by decide) (by decide) (by decide) (by decide)).trans c2
        · exact (fg _ _ (by decide) (by decide) (by decide) (by decide) (by decide)).trans c3
        · exact g1
        · exact g2
        · exact g3
      exact Rq_sub (Rq_ap q3 q4) (by decide +kernel)
  exact Sk_some ⟨Fn_tr fn hq.1 (by decide) (by decide), hq.2⟩

theorem n_113_83 (h : Mem) : Sk 104 (fun g => Fn 96 104 h g ∧ Rq [(96, 8, 103), (96, 7, 102), (96, 6, 101), (96, 5, 100), (96, 4, 99), (96, 3, 98), (96, 2, 97)] g) (MI X d 113 [.inr (.inr 96)] (Tk 97) h) := by
  rw [e_113]
  simp (disch := decide) only [Tk_app, Nat.reduceAdd, Tk_len, nlit]
  have fn := @Fn_rf 96 104 h
  have q := @Rq_nil h
  refine s_kd rfl ?_
  refine s_un2 (by decide) ?_
  refine s_putq 2 rfl rfl (by decide) fn q (by decide) (by decide +kernel) fun h fn q => ?_
  refine s_un2 (by decide) ?_
  refine s_putq 3 rfl rfl (by decide) fn q (by decide) (by decide +kernel) fun h fn q => ?_
  refine s_un2 (by decide) ?_
  refine s_putq 4 rfl rfl (by decide) fn q (by decide) (by decide +kernel) fun h fn q => ?_
  refine s_un2 (by decide) ?_
  refine s_putq 5 rfl rfl (by decide) fn q (by decide) (by decide +kernel) fun h fn q => ?_
  refine s_un2 (by decide) ?_
  refine s_putq 6 rfl rfl (by decide) fn q (by decide) (by decide +kernel) fun h fn q => ?_
  refine s_un2 (by decide) ?_
  refine s_putq 7 rfl rfl (by decide) fn q (by decide) (by decide +kernel) fun h fn q => ?_
  refine s_un2 (by decide) ?_
  refine s_putq 8 rfl rfl (by decide) fn q (by decide) (by decide +kernel) fun h fn q => ?_
  exact Sk_some ⟨fn, q⟩

theorem n_17_83 (h : Mem) : Sk 104 (fun g => Fn 83 104 h g ∧ Rq [(83, 2, 84), (83, 3, 85), (83, 4, 86), (83, 5, 87), (83, 6, 88), (83, 7, 89), (83, 8, 90), (83, 9, 91), (83, 10, 92), (83, 11, 93), (83, 12, 94), (83, 13, 95), (83, 19, 96), (96, 2, 97), (96, 3, 98), (96, 4, 99), (96, 5, 100), (96, 6, 101), (96, 7, 102), (96, 8, 103), (83, 0, 0), (83, 1, 0), (83, 14, -1), (84, 0, 6), (84, 1, 0), (84, 2, 2), (84, 3, 2), (96, 0, 0), (96, 1, 0)] g) (MI X (d + 3) 17 [.inr (.inr 83)] (Tk 84) h) := by
  rw [e_17]
  simp (disch := decide) only [Tk_app, Nat.reduceAdd, Tk_len, nlit]
  have fn := @Fn_rf 83 104 h
  have q := @Rq_nil h
  refine s_kd rfl ?_
  refine s_un2 (by decide) ?_
  refine s_putq 2 rfl rfl (by decide) fn q (by decide) (by decide +kernel) fun h fn q => ?_
  refine s_un2 (by decide) ?_
  refine s_putq 3 rfl rfl (by decide) fn q (by decide) (by decide +kernel) fun h fn q => ?_
  refine s_un2 (by decide) ?_
  refine s_putq 4 rfl rfl (by decide) fn q (by decide) (by decide +kernel) fun h fn q => ?_
  refine s_un2 (by decide) ?_
  refine s_putq 5 rfl rfl (by decide) fn q (by decide) (by decide +kernel) fun h fn q => ?_
  refine s_un2 (by decide) ?_
  refine s_putq 6 rfl rfl (by decide) fn q (by decide) (by decide +kernel) fun h fn q => ?_
  refine s_un2 (by decide) ?_
  refine s_putq 7 rfl rfl (by decide) fn q (by decide) (by decide +kernel) fun h fn q => ?_
  refine s_un2 (by decide) ?_
  refine s_putq 8 rfl rfl (by decide) fn q (by decide) (by decide +kernel) fun h fn q => ?_
  refine s_un2 (by decide) ?_
  refine s_putq 9 rfl rfl (by decide) fn q (by decide) (by decide +kernel) fun h fn q => ?_
  refine s_un2 (by decide) ?_
  refine s_putq 10 rfl rfl (by decide) fn q (by decide) (by decide +kernel) fun h fn q => ?_
  refine s_un2 (by decide) ?_
  refine s_putq 11 rfl rfl (by decide) fn q (by decide) (by decide +kernel) fun h fn q => ?_
  refine s_un2 (by decide) ?_
  refine s_putq 12 rfl rfl (by decide) fn q (by decide) (by decide +kernel) fun h fn q => ?_
  refine s_un2 (by decide) ?_
  refine s_putq 13 rfl rfl (by decide) fn q (by decide) (by decide +kernel) fun h fn q => ?_
  refine s_kd rfl ?_
  refine Sk_o (n_113_83 (X := X) (d := d + 2) h) fun v h hq => ?_
  replace fn := Fn_tr fn hq.1 (by decide) (by decide)
  replace q := Rq_ap (Rq_fn q hq.1 (by decide +kernel)) hq.2
  refine s_un2 (by decide) ?_
  refine s_putq 19 rfl rfl (by decide) fn q (by decide) (by decide +kernel) fun h fn q => ?_
  refine s_kd rfl ?_
  refine Sk_o (k' := 104) (Q := fun g => Fn 83 104 h g ∧ Rq [(83, 2, 84), (83, 3, 85), (83, 4, 86), (83, 5, 87), (83, 6, 88), (83, 7, 89), (83, 8, 90), (83, 9, 91), (83, 10, 92), (83, 11, 93), (83, 12, 94), (83, 13, 95), (83, 19, 96), (96, 2, 97), (96, 3, 98), (96, 4, 99), (96, 5, 100), (96, 6, 101), (96, 7, 102), (96, 8, 103), (83, 0, 0), (83, 1, 0), (83, 14, -1), (84, 0, 6), (84, 1, 0), (84, 2, 2), (84, 3, 2), (96, 0, 0), (96, 1, 0)] g) ?_ fun v g hq => ?_
  · (try dsimp only)
    (try dsimp only)
    rw [e_18]
    have fn1 := @Fn_rf 83 104 h
    refine s_putq 0 rfl rfl (by decide) fn1 q (by decide) (by decide +kernel) fun h1 fn1 q1 => ?_
    refine s_putq 1 rfl rfl (by decide) fn1 q1 (by decide) (by decide +kernel) fun h1 fn1 q1 => ?_
    refine s_getq 2 84 rfl rfl q1 (by decide +kernel) ?_
    have ea : acp X (Tk 104) h1 (-5) 0 84 0 4 = some (cpy h1 84 (am_ro X (-5)).2 0 0 4) := by
      unfold acp
      rw [if_pos rfl, if_pos ⟨rfl, by decide, by decide, by decide, by decide, by decide⟩]
      rfl
    (try dsimp only)
    rw [ea, oK_some]
    have fc : Fn 84 85 h1 (cpy h1 84 (am_ro X (-5)).2 0 0 4) := fun c j x y z => if_neg (fun w => by have := w.1; omega)
    have c0 : rd (cpy h1 84 (am_ro X (-5)).2 0 0 4) 84 0 = 6 := rfl
    have c1 : rd (cpy h1 84 (am_ro X (-5)).2 0 0 4) 84 1 = 0 := rfl
    have c2 : rd (cpy h1 84 (am_ro X (-5)).2 0 0 4) 84 2 = 2 := rfl
    have c3 : rd (cpy h1 84 (am_ro X (-5)).2 0 0 4) 84 3 = 2 := rfl
    generalize cpy h1 84 (am_ro X (-5)).2 0 0 4 = h2 at fc c0 c1 c2 c3 ⊢
    have q2 := Rq_fn q1 fc (by decide +kernel)
    obtain ⟨v, g, eg, fg, g1, g2, g3⟩ := n_18_l (X := X) (d := d + 1) (S := Tk 104) (b := 83) (by decide) rfl rfl rfl rfl 36 0 h2 rfl (by decide) (Rq_has q2 (by decide +kernel)) (Rq_has q2 (by decide +kernel))
    refine ⟨v, g, eg, fun c j x y z => ?_, ?_⟩
    · rw [fg c j x y (by omega) (by omega) (by omega), fc c j x y (by omega), fn1 c j x y z]
    · have q3 : Rq [(83, 2, 84), (83, 3, 85), (83, 4, 86), (83, 5, 87), (83, 6, 88), (83, 7, 89), (83, 8, 90), (83, 9, 91), (83, 10, 92), (83, 11, 93), (83, 12, 94), (83, 13, 95), (83, 19, 96), (96, 2, 97), (96, 3, 98), (96, 4, 99), (96, 5, 100), (96, 6, 101), (96, 7, 102), (96, 8, 103), (83, 0, 0), (83, 1, 0)] g := fun p m => by
        have m2 := List.all_eq_true.mp (show (([(83, 2, 84), (83, 3, 85), (83, 4, 86), (83, 5, 87), (83, 6, 88), (83, 7, 89), (83, 8, 90), (83, 9, 91), (83, 10, 92), (83, 11, 93), (83, 12, 94), (83, 13, 95), (83, 19, 96), (96, 2, 97), (96, 3, 98), (96, 4, 99), (96, 5, 100), (96, 6, 101), (96, 7, 102), (96, 8, 103), (83, 0, 0), (83, 1, 0)] : List Fc).all fun p => decide (0 ≤ p.1) && decide (0 ≤ p.2.1) && (decide (p.1 ≠ 83) || decide (p.2.1 < 14) || decide (18 < p.2.1)) && decide (p.1 ≠ 93) && (decide (p.1 ≠ 96) || decide (1 < p.2.1))) = true by decide +kernel) p m
        simp only [Bool.and_eq_true, Bool.or_eq_true, decide_eq_true_eq] at m2
        rw [fg _ _ m2.1.1.1.1 m2.1.1.1.2 (by omega) m2.1.2 (by omega)]
        exact Rq_sub q2 (L' := [(83, 2, 84), (83, 3, 85), (83, 4, 86), (83, 5, 87), (83, 6, 88), (83, 7, 89), (83, 8, 90), (83, 9, 91), (83, 10, 92), (83, 11, 93), (83, 12, 94), (83, 13, 95), (83, 19, 96), (96, 2, 97), (96, 3, 98), (96, 4, 99), (96, 5, 100), (96, 6, 101), (96, 7, 102), (96, 8, 103), (83, 0, 0), (83, 1, 0)]) (by decide +kernel) p m
      have q4 : Rq [(84, 0, 6), (84, 1, 0), (84, 2, 2), (84, 3, 2), (83, 14, -1), (96, 0, 0), (96, 1, 0)] g := by
        intro p m
        simp only [List.mem_cons, List.not_mem_nil, or_false] at m
        rcases m with rfl | rfl | rfl | rfl | rfl | rfl | rfl
        · exact (fg _ _ (by decide) (by decide) (by decide) (by decide) (by decide)).trans c0
        · exact (fg _ _ (by decide) (by decide) (by decide) (by decide) (by decide)).trans c1
        · exact (fg _ _ (by decide) (by decide) (by decide) (by decide) (by decide)).trans c2
        · exact (fg _ _ (by decide) (by decide) (by decide) (by decide) (by decide)).trans c3
        · exact g1
        · exact g2
        · exact g3
      exact Rq_sub (Rq_ap q3 q4) (by decide +kernel)
  exact Sk_some ⟨Fn_tr fn hq.1 (by decide) (by decide), hq.2⟩

theorem n_113_104 (h : Mem) : Sk 125 (fun g => Fn 117 125 h g ∧ Rq [(117, 8, 124), (117, 7, 123), (117, 6, 122), (117, 5, 121), (117, 4, 120), (117, 3, 119), (117, 2, 118)] g) (MI X d 113 [.inr (.inr 117)] (Tk 118) h) := by
  rw [e_113]
  simp (disch := decide) only [Tk_app, Nat.reduceAdd, Tk_len, nlit]
  have fn := @Fn_rf 117 125 h
  have q := @Rq_nil h
  refine s_kd rfl ?_
  refine s_un2 (by decide) ?_
  refine s_putq 2 rfl rfl (by decide) fn q (by decide) (by decide +kernel) fun h fn q => ?_
  refine s_un2 (by decide) ?_
  refine s_putq 3 rfl rfl (by decide) fn q (by decide) (by decide +kernel) fun h fn q => ?_
  refine s_un2 (by decide) ?_
  refine s_putq 4 rfl rfl (by decide) fn q (by decide) (by decide +kernel) fun h fn q => ?_
  refine s_un2 (by decide) ?_
  refine s_putq 5 rfl rfl (by decide) fn q (by decide) (by decide +kernel) fun h fn q => ?_
  refine s_un2 (by decide) ?_
  refine s_putq 6 rfl rfl (by decide) fn q (by decide) (by decide +kernel) fun h fn q => ?_
  refine s_un2 (by decide) ?_
  refine s_putq 7 rfl rfl (by decide) fn q (by decide) (by decide +kernel) fun h fn q => ?_
  refine s_un2 (by decide) ?_
  refine s_putq 8 rfl rfl (by decide) fn q (by decide) (by decide +kernel) fun h fn q => ?_
  exact Sk_some ⟨fn, q⟩

theorem n_17_104 (h : Mem) : Sk 125 (fun g => Fn 104 125 h g ∧ Rq [(104, 2, 105), (104, 3, 106), (104, 4, 107), (104, 5, 108), (104, 6, 109), (104, 7, 110), (104, 8, 111), (104, 9, 112), (104, 10, 113), (104, 11, 114), (104, 12, 115), (104, 13, 116), (104, 19, 117), (117, 2, 118), (117, 3, 119), (117, 4, 120), (117, 5, 121), (117, 6, 122), (117, 7, 123), (117, 8, 124), (104, 0, 0), (104, 1, 0), (104, 14, -1), (105, 0, 6), (105, 1, 0), (105, 2, 2), (105, 3, 2), (117, 0, 0), (117, 1, 0)] g) (MI X (d + 3) 17 [.inr (.inr 104)] (Tk 105) h) := by
  rw [e_17]
  simp (disch := decide) only [Tk_app, Nat.reduceAdd, Tk_len, nlit]
  have fn := @Fn_rf 104 125 h
  have q := @Rq_nil h
  refine s_kd rfl ?_
  refine s_un2 (by decide) ?_
  refine s_putq 2 rfl rfl (by decide) fn q (by decide) (by decide +kernel) fun h fn q => ?_
  refine s_un2 (by decide) ?_
  refine s_putq 3 rfl rfl (by decide) fn q (by decide) (by decide +kernel) fun h fn q => ?_
  refine s_un2 (by decide) ?_
  refine s_putq 4 rfl rfl (by decide) fn q (by decide) (by decide +kernel) fun h fn q => ?_
  refine s_un2 (by decide) ?_
  refine s_putq 5 rfl rfl (by decide) fn q (by decide) (by decide +kernel) fun h fn q => ?_
  refine s_un2 (by decide) ?_
  refine s_putq 6 rfl rfl (by decide) fn q (by decide) (by decide +kernel) fun h fn q => ?_
  refine s_un2 (by decide) ?_
  refine s_putq 7 rfl rfl (by decide) fn q (by decide) (by decide +kernel) fun h fn q => ?_
  refine s_un2 (by decide) ?_
  refine s_putq 8 rfl rfl (by decide) fn q (by decide) (by decide +kernel) fun h fn q => ?_
  refine s_un2 (by decide) ?_
  refine s_putq 9 rfl rfl (by decide) fn q (by decide) (by decide +kernel) fun h fn q => ?_
  refine s_un2 (by decide) ?_
  refine s_putq 10 rfl rfl (by decide) fn q (by decide) (by decide +kernel) fun h fn q => ?_
  refine s_un2 (by decide) ?_
  refine s_putq 11 rfl rfl (by decide) fn q (by decide) (by decide +kernel) fun h fn q => ?_
  refine s_un2 (by decide) ?_
  refine s_putq 12 rfl rfl (by decide) fn q (by decide) (by decide +kernel) fun h fn q => ?_
  refine s_un2 (by decide) ?_
  refine s_putq 13 rfl rfl (by decide) fn q (by decide) (by decide +kernel) fun h fn q => ?_
  refine s_kd rfl ?_
  refine Sk_o (n_113_104 (X := X) (d := d + 2) h) fun v h hq => ?_
  replace fn := Fn_tr fn hq.1 (by decide) (by decide)
  replace q := Rq_ap (Rq_fn q hq.1 (by decide +kernel)) hq.2
  refine s_un2 (by decide) ?_
  refine s_putq 19 rfl rfl (by decide) fn q (by decide) (by decide +kernel) fun h fn q => ?_
  refine s_kd rfl ?_
  refine Sk_o (k' := 125) (Q := fun g => Fn 104 125 h g ∧ Rq [(104, 2, 105), (104, 3, 106), (104, 4, 107), (104, 5, 108), (104, 6, 109), (104, 7, 110), (104, 8, 111), (104, 9, 112), (104, 10, 113), (104, 11, 114), (104, 12, 115), (104, 13, 116), (104, 19, 117), (117, 2, 118), (117, 3, 119), (117, 4, 120), (117, 5, 121), (117, 6, 122), (117, 7, 123), (117, 8, 124), (104, 0, 0), (104, 1, 0), (104, 14, -1), (105, 0, 6), (105, 1, 0), (105, 2, 2), (105, 3, 2), (117, 0, 0), (117, 1, 0)] g) ?_ fun v g hq => ?_
  · (try dsimp only)
    (try dsimp only)
    rw [e_18]
    have fn1 := @Fn_rf 104 125 h
    refine s_putq 0 rfl rfl (by decide) fn1 q (by decide) (by decide +kernel) fun h1 fn1 q1 => ?_
    refine s_putq 1 rfl rfl (by decide) fn1 q1 (by decide) (by decide +kernel) fun h1 fn1 q1 => ?_
    refine s_getq 2 105 rfl rfl q1 (by decide +kernel) ?_
    have ea : acp X (Tk 125) h1 (-5) 0 105 0 4 = some (cpy h1 105 (am_ro X (-5)).2 0 0 4) := by
      unfold acp
      rw [if_pos rfl, if_pos ⟨rfl, by decide, by decide, by decide, by decide, by decide⟩]
      rfl
    (try dsimp only)
    rw [ea, oK_some]
    have fc : Fn 105 106 h1 (cpy h1 105 (am_ro X (-5)).2 0 0 4) := fun c j x y z => if_neg (fun w => by have := w.1; omega)
    have c0 : rd (cpy h1 105 (am_ro X (-5)).2 0 0 4) 105 0 = 6 := rfl
    have c1 : rd (cpy h1 105 (am_ro X (-5)).2 0 0 4) 105 1 = 0 := rfl
    have c2 : rd (cpy h1 105 (am_ro X (-5)).2 0 0 4) 105 2 = 2 := rfl
    have c3 : rd (cpy h1 105 (am_ro X (-5)).2 0 0 4) 105 3 = 2 := rfl
    generalize cpy h1 105 (am_ro X (-5)).2 0 0 4 = h2 at fc c0 c1 c2 c3 ⊢
    have q2 := Rq_fn q1 fc (by decide +kernel)
    obtain ⟨v, g, eg, fg, g1, g2, g3⟩ := n_18_l (X := X) (d := d + 1) (S := Tk 125) (b := 104) (by decide) rfl rfl rfl rfl 36 0 h2 rfl (by decide) (Rq_has q2 (by decide +kernel)) (Rq_has q2 (by decide +kernel))
    refine ⟨v, g, eg, fun c j x y z => ?_, ?_⟩
    · rw [fg c j x y (by omega) (by omega) (by omega), fc c j x y (by omega), fn1 c j x y z]
    · have q3 : Rq [(104, 2, 105), (104, 3, 106), (104, 4, 107), (104, 5, 108), (104, 6, 109), (104, 7, 110), (104, 8, 111), (104, 9, 112), (104, 10, 113), (104, 11, 114), (104, 12, 115), (104, 13, 116), (104, 19, 117), (117, 2, 118), (117, 3, 119), (117, 4, 120), (117, 5, 121), (117, 6, 122), (117, 7, 123), (117, 8, 124), (104, 0, 0), (104, 1, 0)] g := fun p m => by
        have m2 := List.all_eq_true.mp (show (([(104, 2, 105), (104, 3, 106), (104, 4, 107), (104, 5, 108), (104, 6, 109), (104, 7, 110), (104, 8, 111), (104, 9, 112), (104, 10, 113), (104, 11, 114), (104, 12, 115), (104, 13, 116), (104, 19, 117), (117, 2, 118), (117, 3, 119), (117, 4, 120), (117, 5, 121), (117, 6, 122), (117, 7, 123), (117, 8, 124), (104, 0, 0), (104, 1, 0)] : List Fc).all fun p => decide (0 ≤ p.1) && decide (0 ≤ p.2.1) && (decide (p.1 ≠ 104) || decide (p.2.1 < 14) || decide (18 < p.2.1)) && decide (p.1 ≠ 114) && (decide (p.1 ≠ 117) || decide (1 < p.2.1))) = true by decide +kernel) p m
        simp only [Bool.and_eq_true, Bool.or_eq_true, decide_eq_true_eq] at m2
        rw [fg _ _ m2.1.1.1.1 m2.1.1.1.2 (by omega) m2.1.2 (by omega)]
        exact Rq_sub q2 (L' := [(104, 2, 105), (104, 3, 106), (104, 4, 107), (104, 5, 108), (104, 6, 109), (104, 7, 110), (104, 8, 111), (104, 9, 112), (104, 10, 113), (104, 11, 114), (104, 12, 115), (104, 13, 116), (104, 19, 117), (117, 2, 118), (117, 3, 119), (117, 4, 120), (117, 5, 121), (117, 6, 122), (117, 7, 123), (117, 8, 124), (104, 0, 0), (104, 1, 0)]) (by decide +kernel) p m
      have q4 : Rq [(105, 0, 6), (105, 1, 0), (105, 2, 2), (105, 3, 2), (104, 14, -1), (117, 0, 0), (117, 1, 0)] g := by
        intro p m
        simp only [List.mem_cons, List.not_mem_nil, or_false] at m
        rcases m with rfl | rfl | rfl | rfl | rfl | rfl | rfl
        · exact (fg _ _ (by decide) (by decide) (by decide) (by decide) (by decide)).trans c0
        · exact (fg _ _ (by decide) (by decide) (by decide) (by decide) (by decide)).trans c1
        · exact (fg _ _ (by decide) (by decide) (by decide) (by decide) (by decide)).trans c2
        · exact (fg _ _ (by decide) (by decide) (by decide) (by decide) (by decide)).trans c3
        · exact g1
        · exact g2
        · exact g3
      exact Rq_sub (Rq_ap q3 q4) (by decide +kernel)
  exact Sk_some ⟨Fn_tr fn hq.1 (by decide) (by decide), hq.2⟩

end
