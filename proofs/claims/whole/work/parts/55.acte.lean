/-! AN ACT in the class' DAWN -/
section
variable {X : Xs} {d : Nat} {g : Mem} {s : Int → Int} {b N : Int}
theorem FD_wr {g : Mem} {b c i x : Int} (hb : isD b) (h : (125 ≤ c ∧ c ≤ 133) ∨ c = b + 5 ∨ c = b + 7 ∨ c = b + 10 ∨ (c = b ∧ 14 ≤ i ∧ i ≤ 18)) : FD b g (wr g c i x) := by
  have hb2 := isD_rng hb
  intro a j a0 j0 h1 h2 h3 h4 h5
  by_cases e : a = c
  · subst e
    exact rd_wr_ix g x (by omega) j0 (by omega)
  · exact rd_wr_ne g i j x (by omega) a0 e
theorem FD_pB {g : Mem} (hb : isD b) (m h L v : Int) : FD b g (pB g b m h L v) := by
  unfold pB
  split
  · exact FD_wr hb (Or.inr (Or.inr (Or.inl rfl)))
  · exact FD_tr (FD_wr hb (Or.inr (Or.inr (Or.inl rfl)))) (FD_wr hb (Or.inr (Or.inl rfl)))
theorem c_4 (hb : isD b) (r : RD g b s) (hi : Iv N s) (hN : N < 900000) (hd : s 6 ≠ -1) (a : Int) (ha : a = 0 ∨ a = 1 ∨ a = 2 ∨ a = 3) : Ok (fun v g' => v = b2i (caB (boN s) a) ∧ (caB (boN s) a → RD g' b (acS s a) ∧ RB g' (plB (boN s) a) ∧ rd g' 125 12 = tkB (boN s) a) ∧ (¬ caB (boN s) a → RD g' b s) ∧ FD b g g') (MI X (d + 3) 4 [.inr (.inr 125), .inr (.inr b), .inl a] S0 (ov g)) := by
  have hb2 := isD_rng hb
  have hr := r
  have hi' := hi
  obtain ⟨i0, i1, i2, i3, j2, j3, j4, j5, j6, j7, j8, j9, it, im, iw, ia, ih, i6, iu⟩ := hi
  obtain ⟨u0, u1, u2, u3, u4, u5, u6, u7, u8, u9, u10, u11⟩ := iu hd
  have IBs : IB (boN s) := IB_bo hi' (by omega) u0 u1 u2 u3 ⟨u7, u8, u9, u10, u11⟩
  have c40 := c_40 (X := X) (d := d + 2) hb hr
  rw [e_4]
  simp only [↓K_daw hb, ↓K_bou, ↓oC_of c40, ↓if_b2i]
  rw [if_pos hd]
  refine Ok_bind (c_2 hb hr hi' hd) ?_
  rintro v2 g2 ⟨q1, q2⟩
  have rg2 := RD_FB hb hr q2
  simp only [↓K_bou, ↓oC_of (c_11 q1 IBs a), ↓if_b2i]
  by_cases hc : caB (boN s) a
  case neg => 
    rw [if_neg hc]
    refine Ok_some ⟨?_, fun z => absurd z hc, fun _ => rg2, FD_FB q2⟩
    unfold b2i
    rw [if_neg hc]
  rw [if_pos hc]
  refine Ok_bind (c_13 q1 IBs a (by omega) (by omega)) ?_
  rintro v3 g3 ⟨p1, p2, p3⟩
  have rg3 := RD_FB hb rg2 p3
  have pr := pl_rng IBs a ha hc
  simp only [bo_all] at pr
  have hRD := rg3
  obtain ⟨-, -, -, rt, rm, rw', r6, r7⟩ := rg3
  obtain ⟨r7, -⟩ := r7 hd
  obtain ⟨B0, B1, B2, B3, B4, B5, B6, -⟩ := id p1
  obtain ⟨-, -, -, -, -, -, x1, x2⟩ := im (s 6) u0 u1
  obtain ⟨-, -, -, -, -, -, y1, y2⟩ := im (s 7) u2 u3
  have hw1 := iw (s 6) (s 7) u0 u1 u2 u3
  have hw2 := iw (s 7) (s 6) u2 u3 u0 u1
  have hwa := (Iv_mn hi' u0 u1 u2 u3).2
  have hwb := (Iv_mn hi' u2 u3 u0 u1).2
  have hwc := (Iv_wo hi' u0 u1).2
  have hwd := (Iv_wo hi' u2 u3).2
  have t6 : mn s (s 6) 3 ≠ -1 → rd g3 (b + 4) (mn s (s 6) 3) = th s (mn s (s 6) 3) 2 ∧ 1 ≤ th s (mn s (s 6) 3) 2 ∧ th s (mn s (s 6) 3) 2 ≤ 30 := fun z => by
    have q := it (mn s (s 6) 3) (by omega) (by omega)
    exact ⟨(rt _ (by omega) (by omega)).2.2.1, by omega, by omega⟩
  have t7 : mn s (s 7) 3 ≠ -1 → rd g3 (b + 4) (mn s (s 7) 3) = th s (mn s (s 7) 3) 2 ∧ 1 ≤ th s (mn s (s 7) 3) 2 ∧ th s (mn s (s 7) 3) 2 ≤ 30 := fun z => by
    have q := it (mn s (s 7) 3) (by omega) (by omega)
    exact ⟨(rt _ (by omega) (by omega)).2.2.1, by omega, by omega⟩
  have be6 := be_rng hi' x1 x2
  have be7 := be_rng hi' y1 y2
  have R : acR s (ac2 s a (s 10 % 2) (s (6 + s 10 % 2)) (s (7 - s 10 % 2))) (plB (boN s) a) := by
    have hm : s 10 % 2 = 0 ∨ s 10 % 2 = 1 := by omega
    rcases hm with e | e <;> rw [e]
    · exact ac2_0 hi' hd a ha e
    · exact ac2_1 hi' hd a ha e
  have br6 : 0 ≤ th s (mn s (s 6) 3) 2 ∧ th s (mn s (s 6) 3) 2 < 1000000 := by
    by_cases z : mn s (s 6) 3 = -1
    · rw [z]
      show 0 ≤ s 10 ∧ s 10 < 1000000
      omega
    · have := t6 z
      omega
  have br7 : 0 ≤ th s (mn s (s 7) 3) 2 ∧ th s (mn s (s 7) 3) 2 < 1000000 := by
    by_cases z : mn s (s 7) 3 = -1
    · rw [z]
      show 0 ≤ s 10 ∧ s 10 < 1000000
      omega
    · have := t7 z
      omega
  have mf : ∀ x, mn s x 1 = mn s x 1 := fun _ => rfl
  have m6 := (rm _ u0 u1).2.2.2
  have m7 := (rm _ u2 u3).2.2.2
  clear it im iw ia ih iu rt rm mf j2 j3 j4 j5 j6 j7 j8 j9
  have q5 := c_5 (X := X) (d := d + 2) (g := g3) hb (i := 0) (Or.inl rfl) (m := s 6) (L := plB (boN s) a 0) (be := plB (boN s) a 2) (h := mn s (s 6) 3) (br := th s (mn s (s 6) 3) 2) u0 (by omega) B0 B2 m6 x1 (by omega) (fun z => (t6 z).1) (by omega) (by omega)
  have a15 : rd (pB g3 b (s 6) (mn s (s 6) 3) (plB (boN s) a 0) (th s (mn s (s 6) 3) 2 - plB (boN s) a 2)) b 15 = s 7 := by
    rw [pB_ne _ _ _ _ _ _ (by omega) (by omega) (by omega) (by omega)]; exact r7
  have q5b := c_5 (X := X) (d := d + 2) (g := pB g3 b (s 6) (mn s (s 6) 3) (plB (boN s) a 0) (th s (mn s (s 6) 3) 2 - plB (boN s) a 2)) hb (i := 1) (Or.inr rfl) (m := s 7) (L := plB (boN s) a 1) (be := plB (boN s) a 3) (h := mn s (s 7) 3) (br := th s (mn s (s 7) 3) 2) u2 (by omega)
    (by rw [pB_ne _ _ _ _ _ _ (by omega) (by omega) (by omega) (by omega)]; exact B1) (by rw [pB_ne _ _ _ _ _ _ (by omega) (by omega) (by omega) (by omega)]; exact B3)
    (by rw [pB_ne _ _ _ _ _ _ (by omega) (by omega) (by omega) (by omega)]; exact m7) y1 (by omega)
    (fun z => by rw [pB_ne _ _ _ _ _ _ (by omega) (by omega) (by omega) (by omega)]; exact (t7 z).1) (by omega) (by omega)
  have rb5 := RB_pB (RB_pB p1 (b := b) (s 6) (mn s (s 6) 3) (plB (boN s) a 0) (th s (mn s (s 6) 3) 2 - plB (boN s) a 2) (by omega) (by omega)) (b := b) (s 7) (mn s (s 7) 3) (plB (boN s) a 1) (th s (mn s (s 7) 3) 2 - plB (boN s) a 3) (by omega) (by omega)
  have fd5 := FD_tr (FD_tr (FD_tr (FD_FB (b := b) q2) (FD_FB p3)) (FD_pB (g := g3) hb (s 6) (mn s (s 6) 3) (plB (boN s) a 0) (th s (mn s (s 6) 3) 2 - plB (boN s) a 2))) (FD_pB hb (s 7) (mn s (s 7) 3) (plB (boN s) a 1) (th s (mn s (s 7) 3) 2 - plB (boN s) a 3))
  have ry : ∀ g6, g6 = _ → RD g6 b _ := fun g6 e => RD_y hb hRD hi' hd R (g' := g6) e
  have n10 : ∀ g6, g6 = wr (wr (wr (pB (pB g3 b (s 6) (mn s (s 6) 3) (plB (boN s) a 0) (th s (mn s (s 6) 3) 2 - plB (boN s) a 2)) b (s 7) (mn s (s 7) 3) (plB (boN s) a 1) (th s (mn s (s 7) 3) 2 - plB (boN s) a 3)) b 16 (plB (boN s) a 4)) b 17 (plB (boN s) a 5)) b 18 (plB (boN s) a 6) → FD b g g6 ∧ RB g6 (plB (boN s) a) ∧ rd g6 b 14 = s 6 ∧ rd g6 b 15 = s 7 ∧ rd g6 126 0 = plB (boN s) a 0 ∧ rd g6 125 12 = tkB (boN s) a := by
    rintro g6 rfl
    refine ⟨FD_tr (FD_tr (FD_tr fd5 (FD_wr hb (by omega))) (FD_wr hb (by omega))) (FD_wr hb (by omega)), RB_wrd (RB_wrd (RB_wrd rb5 _ _ (by omega) (by omega)) _ _ (by omega) (by omega)) _ _ (by omega) (by omega), ?_, ?_, ?_, ?_⟩
    · simp (disch := omega) only [rd_wr_ix, pB_ne, r6]
    · simp (disch := omega) only [rd_wr_ix, pB_ne, r7]
    · simp (disch := omega) only [rd_wr_ne, pB_ne, B0]
    · simp (disch := omega) only [rd_wr_ne, pB_ne, p2]
  simp (disch := omega) only [↓K_bou, ↓G_bou, ↓P_bou, ↓al_126 _, ↓as_126, ↓al_127 _, ↓as_127, ↓al_128 _, ↓as_128, ↓al_129 _, ↓as_129, ↓al_130 _, ↓as_130, ↓al_131 _, ↓as_131, ↓al_132 _, ↓as_132, ↓al_133 _, ↓as_133, ↓K_daw hb, ↓G_daw hb, ↓P_daw hb, ↓al_D1 _ hb, ↓as_D1 hb, ↓al_D2 _ hb, ↓as_D2 hb, ↓al_D3 _ hb, ↓as_D3 hb, ↓al_D4 _ hb, ↓as_D4 hb, ↓al_D5 _ hb, ↓as_D5 hb, ↓al_D6 _ hb, ↓as_D6 hb, ↓al_D7 _ hb, ↓as_D7 hb, ↓al_D8 _ hb, ↓as_D8 hb, ↓al_D9 _ hb, ↓as_D9 hb, ↓al_D10 _ hb, ↓as_D10 hb, ↓al_D11 hb, ↓as_D11 hb, ↓al_D12 hb, ↓as_D12 hb, r6, ↓oC_of q5, a15, ↓oC_of q5b, rd_wr_ne, pB_ne, B4, B5, B6]
  generalize hg6 : wr (wr (wr (pB (pB g3 b (s 6) (mn s (s 6) 3) (plB (boN s) a 0) (th s (mn s (s 6) 3) 2 - plB (boN s) a 2)) b (s 7) (mn s (s 7) 3) (plB (boN s) a 1) (th s (mn s (s 7) 3) 2 - plB (boN s) a 3)) b 16 (plB (boN s) a 4)) b 17 (plB (boN s) a 5)) b 18 (plB (boN s) a 6) = g6
  obtain ⟨fd6, rb6, f14, f15, f0, ft⟩ := n10 g6 hg6.symm
  have ry6 := ry g6 hg6.symm
  clear n10 ry q5 q5b a15 rb5 fd5 hg6 p1 p2 p3 q1 q2 B0 B1 B2 B3 B4 B5 B6
  simp only [↓K_bou, ↓oC_of (c_7 rb6), ↓if_b2i]
  have vca : b2i (caB (boN s) a) = 1 := by unfold b2i; rw [if_pos hc]
  have hm : s 10 % 2 = 0 ∨ s 10 % 2 = 1 := by omega
  have hc' := hc
  unfold acS
  generalize hy : ac2 s a (s 10 % 2) (s (6 + s 10 % 2)) (s (7 - s 10 % 2)) = y at R ry6 ⊢
  clear hy
  obtain ⟨Rk, -, -, -, Rm, Rw, -⟩ := R
  have l6 : mn y (s 6) 1 = plB (boN s) a 0 := by rw [(Rm _ u0 u1).2.2.2, if_pos rfl]
  have l7 : mn y (s 7) 1 = plB (boN s) a 1 := by rw [(Rm _ u2 u3).2.2.2, if_neg (by omega), if_pos rfl]
  have yw1 := Rw (s 6) (s 7) u0 u1 u2 u3
  have yw2 := Rw (s 7) (s 6) u2 u3 u0 u1
  have k0 := Rk 0 (by omega) (by omega)
  have k1 := Rk 1 (by omega) (by omega)
  have w10 := ry6.2.2.2.2.2.1
  rw [k1] at w10
  have w67 := w10 (s 6) (s 7) u0 u1 u2 u3
  have w76 := w10 (s 7) (s 6) u2 u3 u0 u1
  by_cases ov1 : plB (boN s) a 0 = 0 ∨ plB (boN s) a 1 = 0
  case neg =>
    rw [if_neg ov1]
    refine Ok_some ⟨vca.symm, fun _ => ⟨?_, rb6, ft⟩, fun z => absurd hc z, fd6⟩
    unfold fin
    rw [if_neg]
    · exact ry6
    · rcases hm with e | e <;> rw [e] <;> simp only [Int.reduceSub, l6, l7] <;> omega
  rw [if_pos ov1]
  simp (disch := omega) only [↓K_bou, ↓G_bou, ↓P_bou, ↓al_126 _, ↓as_126, ↓al_127 _, ↓as_127, ↓al_128 _, ↓as_128, ↓al_129 _, ↓as_129, ↓al_130 _, ↓as_130, ↓al_131 _, ↓as_131, ↓al_132 _, ↓as_132, ↓al_133 _, ↓as_133, ↓K_daw hb, ↓G_daw hb, ↓P_daw hb, ↓al_D1 _ hb, ↓as_D1 hb, ↓al_D2 _ hb, ↓as_D2 hb, ↓al_D3 _ hb, ↓as_D3 hb, ↓al_D4 _ hb, ↓as_D4 hb, ↓al_D5 _ hb, ↓as_D5 hb, ↓al_D6 _ hb, ↓as_D6 hb, ↓al_D7 _ hb, ↓as_D7 hb, ↓al_D8 _ hb, ↓as_D8 hb, ↓al_D9 _ hb, ↓as_D9 hb, ↓al_D10 _ hb, ↓as_D10 hb, ↓al_D11 hb, ↓as_D11 hb, ↓al_D12 hb, ↓as_D12 hb, f0]
  by_cases o6 : plB (boN s) a 0 = 0
  · have e : s 10 % 2 = 1 := by
      rcases hm with e | e
      · have := pr.2.2.2.2.2.2.2.2.2.2.2.2.1 e
        omega
      · exact e
    have q36 := c_36 (X := X) (d := d + 2) (g := g6) hb (v := 1) (x := mn y (s 7) (4 + s 6)) (Or.inr rfl) f14 f15 u0 (by omega) u2 (by omega) (by simp only [Int.reduceEq, ↓reduceIte]; exact w76) (by omega) (by omega)
    simp only [Int.reduceEq, ↓reduceIte] at q36
    rw [if_pos o6]
    simp (disch := omega) only [↓K_bou, ↓G_bou, ↓P_bou, ↓al_126 _, ↓as_126, ↓al_127 _, ↓as_127, ↓al_128 _, ↓as_128, ↓al_129 _, ↓as_129, ↓al_130 _, ↓as_130, ↓al_131 _, ↓as_131, ↓al_132 _, ↓as_132, ↓al_133 _, ↓as_133, ↓K_daw hb, ↓G_daw hb, ↓P_daw hb, ↓al_D1 _ hb, ↓as_D1 hb, ↓al_D2 _ hb, ↓as_D2 hb, ↓al_D3 _ hb, ↓as_D3 hb, ↓al_D4 _ hb, ↓as_D4 hb, ↓al_D5 _ hb, ↓as_D5 hb, ↓al_D6 _ hb, ↓as_D6 hb, ↓al_D7 _ hb, ↓as_D7 hb, ↓al_D8 _ hb, ↓as_D8 hb, ↓al_D9 _ hb, ↓as_D9 hb, ↓al_D10 _ hb, ↓as_D10 hb, ↓al_D11 hb, ↓as_D11 hb, ↓al_D12 hb, ↓as_D12 hb, ↓if_pos, ↓oC_of q36, ↓oC_of (c_43 hb)]
    refine Ok_some ⟨vca.symm, fun _ => ⟨?_, ?_, ?_⟩, fun z => absurd hc z, ?_⟩
    · unfold fin
      rw [e]
      simp only [Int.reduceSub, Int.reduceAdd]
      rw [if_pos (by rw [l6]; exact o6)]
      exact RD_en hb ry6 (by omega) (by omega) u2 (by omega) u0 (by omega)
    · exact RB_wrd (RB_wrd (RB_wrd (RB_wrd (RB_wrd (RB_wrd rb6 _ _ (by omega) (by omega)) _ _ (by omega) (by omega)) _ _ (by omega) (by omega)) _ _ (by omega) (by omega)) _ _ (by omega) (by omega)) _ _ (by omega) (by omega)
    · simp (disch := omega) only [rd_wr_ne, ft]
    · exact FD_tr (FD_tr (FD_tr (FD_tr (FD_tr (FD_tr fd6 (FD_wr hb (by omega))) (FD_wr hb (by omega))) (FD_wr hb (by omega))) (FD_wr hb (by omega))) (FD_wr hb (by omega))) (FD_wr hb (by omega))
  · have o7 : plB (boN s) a 1 = 0 := by omega
    have e : s 10 % 2 = 0 := by
      rcases hm with e | e
      · exact e
      · have := pr.2.2.2.2.2.2.2.2.2.2.2.2.2 e
        omega
    have q36 := c_36 (X := X) (d := d + 2) (g := g6) hb (v := 0) (x := mn y (s 6) (4 + s 7)) (Or.inl rfl) f14 f15 u0 (by omega) u2 (by omega) (by simp only [↓reduceIte]; exact w67) (by omega) (by omega)
    simp only [↓reduceIte] at q36
    rw [if_neg o6]
    simp (disch := omega) only [↓K_bou, ↓G_bou, ↓P_bou, ↓al_126 _, ↓as_126, ↓al_127 _, ↓as_127, ↓al_128 _, ↓as_128, ↓al_129 _, ↓as_129, ↓al_130 _, ↓as_130, ↓al_131 _, ↓as_131, ↓al_132 _, ↓as_132, ↓al_133 _, ↓as_133, ↓K_daw hb, ↓G_daw hb, ↓P_daw hb, ↓al_D1 _ hb, ↓as_D1 hb, ↓al_D2 _ hb, ↓as_D2 hb, ↓al_D3 _ hb, ↓as_D3 hb, ↓al_D4 _ hb, ↓as_D4 hb, ↓al_D5 _ hb, ↓as_D5 hb, ↓al_D6 _ hb, ↓as_D6 hb, ↓al_D7 _ hb, ↓as_D7 hb, ↓al_D8 _ hb, ↓as_D8 hb, ↓al_D9 _ hb, ↓as_D9 hb, ↓al_D10 _ hb, ↓as_D10 hb, ↓al_D11 hb, ↓as_D11 hb, ↓al_D12 hb, ↓as_D12 hb, ↓if_pos, ↓oC_of q36, ↓oC_of (c_43 hb)]
    refine Ok_some ⟨vca.symm, fun _ => ⟨?_, ?_, ?_⟩, fun z => absurd hc z, ?_⟩
    · unfold fin
      rw [e]
      simp only [Int.sub_zero, Int.add_zero]
      rw [if_pos (by rw [l7]; exact o7)]
      exact RD_en hb ry6 (by omega) (by omega) u0 (by omega) u2 (by omega)
    · exact RB_wrd (RB_wrd (RB_wrd (RB_wrd (RB_wrd (RB_wrd rb6 _ _ (by omega) (by omega)) _ _ (by omega) (by omega)) _ _ (by omega) (by omega)) _ _ (by omega) (by omega)) _ _ (by omega) (by omega)) _ _ (by omega) (by omega)
    · simp (disch := omega) only [rd_wr_ne, ft]
    · exact FD_tr (FD_tr (FD_tr (FD_tr (FD_tr (FD_tr fd6 (FD_wr hb (by omega))) (FD_wr hb (by omega))) (FD_wr hb (by omega))) (FD_wr hb (by omega))) (FD_wr hb (by omega))) (FD_wr hb (by omega))
end
