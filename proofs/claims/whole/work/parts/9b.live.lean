/-! live of both -/
def c0L (v : Int) : Int → Int := fun j => if j = 1 then v else if j = 2 then 1 else 0
theorem wk_28 (cw : Int → Int → Int) (z : Int) : ∀ (f : Nat) (i j : Int) (x : Sg), (x.2 2 = z ∧ 0 ≤ x.2 8 ∧ x.2 8 ≤ 1) → ((wk cw f i j x).2.2 2 = z ∧ 0 ≤ (wk cw f i j x).2.2 8 ∧ (wk cw f i j x).2.2 8 ≤ 1) := by
  intro f
  induction f with
  | zero => intro i j x h; exact h
  | succ f ih =>
    intro i j x h
    have up : ∀ (y : Sg), (y.2 2 = z ∧ 0 ≤ y.2 8 ∧ y.2 8 ≤ 1) → ∀ t : Nat, ((wkI (wk cw f (i + 1) (cw 6 i)) t y).2.2 2 = z ∧ 0 ≤ (wkI (wk cw f (i + 1) (cw 6 i)) t y).2.2 8 ∧ (wkI (wk cw f (i + 1) (cw 6 i)) t y).2.2 8 ≤ 1) := by
      intro y hy t
      induction t generalizing y with
      | zero => exact hy
      | succ t it =>
        rw [wkI_s]
        have q := ih (i + 1) (cw 6 i) y hy
        split
        · exact it _ q
        · exact q
    have h3 : (us x.2 3 (x.2 3 + 1)) 2 = z ∧ 0 ≤ (us x.2 3 (x.2 3 + 1)) 8 ∧ (us x.2 3 (x.2 3 + 1)) 8 ≤ 1 := by
      simp (disch := omega) only [us_ne]; exact h
    rw [wk_s]
    split
    · split
      · dsimp only
        rw [us_eq, us_ne _ _ (by omega)]
        exact ⟨h.1, by omega, by omega⟩
      · split
        · exact h3
        · split
          · split
            · exact ih _ _ _ (up (x.1, us x.2 3 (x.2 3 + 1)) h3 _)
            · exact up (x.1, us x.2 3 (x.2 3 + 1)) h3 _
          · refine ih _ _ _ ?_
            dsimp only
            have q := do_3 (s := x.1) (c := us x.2 3 (x.2 3 + 1)) (cw 0 i) (cw 3 i) (cw 4 i) (cw 5 i)
            rw [q.2.2, q.2.1]
            exact h3
    · exact h
theorem Blk_1 {n0 n1 : Int} {cw R : Int → Int → Int} : ∀ (f : Nat) (D i j p q : Int), Blk n0 n1 cw R f D i j p q → p = q ∨ R p 0 ≠ 21
  | 0, D, i, j, p, q, h => Or.inl h.2
  | f + 1, D, i, j, p, q, h => by
    rcases h with ⟨h1, h2⟩ | ⟨h1, h2, h3⟩ | ⟨h1, h2, h3, p', h4, h5, h6, h7, h8⟩
    · exact Or.inl h2
    · refine Or.inr ?_
      rcases h2 with h2 | ⟨a, b⟩
      · omega
      · have := b.1; have := a.1; have := a.2.1; omega
    · refine Or.inr ?_
      rcases h2 with ⟨w, -⟩ | ⟨w, t⟩
      · have := (h3.1 w).1; omega
      · obtain ⟨x1, x2, x3, x4⟩ := h3.2 w
        rcases t with t | ⟨t, -⟩ | ⟨t, -⟩ | t
        · rw [(x1 t).1]; omega
        · rw [(x2 t).1]; omega
        · rw [(x3 t).1]; omega
        · rw [x4 t]; omega
section
variable {X : Xs} {d : Nat} {N n0 n1 : Int} {g : Mem} {s : Int → Int} {b L : Int}
theorem WI_0 (hi : Iv N s) {v : Int} (v0 : 0 ≤ v) (v1 : v < 65536) : WI N (s 0) (s 1) (s, c0L v) := by
  have e1 : c0L v 1 = v := rfl
  have e3 : c0L v 3 = 0 := rfl
  have e4 : c0L v 4 = 0 := rfl
  have e5 : c0L v 5 = 0 := rfl
  have e6 : c0L v 6 = 0 := rfl
  have e7 : c0L v 7 = 0 := rfl
  unfold WI IL
  dsimp only
  rw [e1, e3, e4, e5, e6, e7, Int.add_zero]
  exact ⟨hi, ⟨v0, v1, by omega, by omega, by omega, by omega, by omega, by omega, by omega, by omega⟩, by omega, by omega, rfl, rfl⟩
theorem c_68 (hb : isD b) (hl : isL L) {cw R : Int → Int → Int} (hN : N + 300 < 800000) (r : RD g b s) (hi : Iv N s) {v ns nr : Int} (v0 : 0 ≤ v) (v1 : v < 65536) (hns : rd g (b + 13) 1 = ns) (n30 : ns ≤ 30) (f : Nat) (hB : Blk (s 0) (s 1) cw R f 0 0 ns 0 nr) (hc : ∀ k t, 0 ≤ k → k ≤ 6 → 0 ≤ t → t < 30 → rd g (b + 14 + k) t = cw k t) : Ok (fun _ g' => RD g' b (wk cw f 0 ns (s, c0L v)).2.1 ∧ RL g' L (wk cw f 0 ns (s, c0L v)).2.2 ∧ WI N (s 0) (s 1) (wk cw f 0 ns (s, c0L v)).2 ∧ FW b L g g') (MI X (d + 12) 68 [.inr (.inr L), .inr (.inr b), .inl v] S0 (ov g)) := by
  have hb2 := isD_rng hb
  have hl2 := isL_rng hl
  have u1 : unV 3 (.inl 1) = some 1 := rfl
  have u0 : unV 3 (.inl 0) = some 0 := rfl
  rw [e_68]
  simp only [↓P_liv hl, u1, u0, ↓oK_some]
  generalize hg1 : wr (wr (wr (wr (wr (wr (wr (wr g L 1 v) L 2 1) L 3 0) L 4 0) L 5 0) L 6 0) L 7 0) L 8 0 = g1
  have f1 : FW b L g g1 := by
    subst hg1
    exact FW_tr (FW_tr (FW_tr (FW_tr (FW_tr (FW_tr (FW_tr (FW_L _ _ _ (by omega)) (FW_L _ _ _ (by omega))) (FW_L _ _ _ (by omega))) (FW_L _ _ _ (by omega))) (FW_L _ _ _ (by omega))) (FW_L _ _ _ (by omega))) (FW_L _ _ _ (by omega))) (FW_L _ _ _ (by omega))
  have rl : RL g1 L (c0L v) := by
    intro j j0 j1
    subst hg1
    have hj : j = 1 ∨ j = 2 ∨ j = 3 ∨ j = 4 ∨ j = 5 ∨ j = 6 ∨ j = 7 ∨ j = 8 := by omega
    rcases hj with rfl | rfl | rfl | rfl | rfl | rfl | rfl | rfl <;> simp (disch := omega) only [rd_wr_ix, rd_wr_eq] <;> rfl
  have rd1 : RD g1 b s := by
    subst hg1
    exact RD_L hb hl (RD_L hb hl (RD_L hb hl (RD_L hb hl (RD_L hb hl (RD_L hb hl (RD_L hb hl (RD_L hb hl r _ _) _ _) _ _) _ _) _ _) _ _) _ _) _ _
  have e1 : rd g1 (b + 13) 1 = ns := by rw [f1 _ _ (by omega) (by omega) (by omega) (by omega) (by omega) (by omega) (by omega) (by omega)]; exact hns
  simp only [↓G_daw hb, ↓G_yrs hb, e1]
  rw [e_69]
  simp only [↓G_daw hb]
  refine Ok_bind (c_69_l (d := d + 1) hb hl hN f 4 0 0 ns 0 nr (by omega) (by omega) (by omega) hB (by omega) n30 g1 (s, c0L v) rd1 rl (WI_0 hi v0 v1) (cw_FW hb hl f1 hc)) ?_
  rintro v2 g2 ⟨q1, q2, q3, q4, q5⟩
  exact Ok_some ⟨q2, q3, q4, FW_tr f1 q5⟩
theorem m_331_z : ∀ (k : Nat) (i : Int) (g : Mem), i + k = 5 → 0 ≤ i → ∃ g', EI X (d + 10) 331 12 [some (.inr (.inr 143)), none, some (.inl i), none] [] S0 (ov g) = EI X (d + 10) 331 32 [some (.inr (.inr 143)), none, some (.inl 0), none] [] S0 (ov g') ∧ (∀ j, i ≤ j → j < 5 → rd g' 161 j = 0) ∧ (∀ c j, 0 ≤ c → 0 ≤ j → (c ≠ 161 ∨ j < i) → rd g' c j = rd g c j) := by
  intro k
  induction k with
  | zero =>
    intro i g hk i0
    refine ⟨g, ?_, fun j a b => by omega, fun _ _ _ _ _ => rfl⟩
    rw [e_331_12, if_neg (show ¬ i < 5 by omega)]
  | succ k ih =>
    intro i g hk i0
    obtain ⟨g2, e, q1, q2⟩ := ih (i + 1) (wr g 161 i 0) (by omega) (by omega)
    refine ⟨g2, ?_, fun j a b => ?_, fun c j a b h => ?_⟩
    · rw [e_331_12, if_pos (show i < 5 by omega), g_36, as_161 g _ i0 (by omega), w32_id (x := i + 1) (by omega) (by omega)]
      exact e
    · by_cases z : j = i
      · rw [q2 _ _ (by omega) (by omega) (by omega), z, rd_wr_eq]
      · exact q1 j (by omega) b
    · rw [q2 c j a b (by omega)]
      by_cases z : c = 161
      · subst z; exact rd_wr_ix _ _ i0 b (by omega)
      · exact rd_wr_ne _ _ _ _ (by omega) a z
theorem m_331 {cw R : Int → Int → Int} (hN : N + 300 < 800000) (r : RM g s) (hi : Iv N s) {v ns nr : Int} (v0 : 0 ≤ v) (v1 : v < 65536) (h11 : s 11 = nr) (n60 : nr ≤ 60) (f : Nat) (hB : Blk (s 0) (s 1) cw R f 0 0 ns 0 nr) (hR : Rw g R) : Ok (fun _ g' => RM g' (wk cw f 0 ns (s, c0L v)).2.1 ∧ RN g' (wk cw f 0 ns (s, c0L v)).2.2 ∧ WI N (s 0) (s 1) (wk cw f 0 ns (s, c0L v)).2 ∧ (wk cw f 0 ns (s, c0L v)).2.1 11 = nr ∧ FV g g') (MI X (d + 10) 331 [.inr (.inr 143), .inl v] S0 (ov g)) := by
  have p33 : ∀ (h : Mem) (x : Int) (f : Mem → Option Rs), oK (putf S0 (ov h) 11 143 33 x) none f = f (ov (wr h 143 33 x)) := fun h x f => by simp only [P_mod]
  have ll := Blk_le _ _ _ _ _ _ hB
  rw [e_331, p33, p_34]
  obtain ⟨g1, e, z1, z2⟩ := m_331_z (X := X) (d := d) 5 0 (wr (wr g 143 33 v) 143 34 0) (by omega) (by omega)
  rw [e]
  have f1 : FV g g1 := fun c i a b h1 h2 h3 h4 => by
    rw [z2 c i a b (by omega)]
    by_cases w : c = 143
    · subst w; rw [rd_wr_ix _ _ (by omega) b (by omega), rd_wr_ix _ _ (by omega) b (by omega)]
    · rw [rd_wr_ne _ _ _ _ (by omega) a w, rd_wr_ne _ _ _ _ (by omega) a w]
  have r1 : RM g1 s := fun i a b => by
    rw [z2 _ _ (by omega) a (by omega), rd_wr_ne _ _ _ _ (by omega) (by omega) (by omega), rd_wr_ne _ _ _ _ (by omega) (by omega) (by omega)]
    exact r i a b
  have n1 : RN g1 (c0L v) := by
    unfold RN
    rw [z1 0 (by omega) (by omega), z1 1 (by omega) (by omega), z1 2 (by omega) (by omega), z1 3 (by omega) (by omega), z1 4 (by omega) (by omega), z2 143 33 (by omega) (by omega) (by omega), z2 143 34 (by omega) (by omega) (by omega), rd_wr_eq, rd_wr_ix _ _ (by omega) (by omega) (by omega), rd_wr_eq]
    exact ⟨rfl, rfl, rfl, rfl, rfl, rfl, rfl⟩
  have R1 := Rw_FV hR f1
  have a11 : rd g1 144 11 = nr := (r1 11 (by omega) (by omega)).trans h11
  have e0 : zz X d 0 g1 = EI X (d + 10) 331 32 [some (.inr (.inr 143)), none, some (.inl 0), none] [] S0 (ov g1) := by
    refine zz_n a11 n60 (by omega) ?_
    rcases Blk_1 _ _ _ _ _ _ hB with h | h
    · exact Or.inl (by omega)
    · by_cases z : nr = 0
      · exact Or.inl (by omega)
      · refine Or.inr ?_
        have := R1 0 0 (by omega) (by omega) (by omega) (by omega)
        rw [Int.add_zero] at this
        rw [this]
        exact h
  rw [← e0]
  refine m_walk (n0 := s 0) (n1 := s 1) (nr := nr) hN n60 f 0 0 ns 0 nr hB (by omega) (Int.le_refl _) _ g1 (s, c0L v) r1 n1 (WI_0 hi v0 v1) h11 R1 (fun g' hs => ?_)
  obtain ⟨s1, s2, s3, s4, s5, s6⟩ := hs
  by_cases z : (wk cw f 0 ns (s, c0L v)).1 = true
  · rw [if_pos z]
    have b11 : rd g' 144 11 = nr := (s1 11 (by omega) (by omega)).trans s4
    rw [zz_n b11 n60 (by omega) (Or.inl (Int.le_refl _)), e_331_32, g_at, al_144 X g' (by omega) (by omega), b11, if_neg (by omega)]
    exact Ok_some ⟨s1, s2, s3, s4, FV_tr f1 s5⟩
  · rw [if_neg z]
    exact ⟨s1, s2, s3, s4, FV_tr f1 s5⟩
theorem m_332_l : ∀ (k : Nat) (i : Int) (g : Mem), i + k = 5 → 0 ≤ i → Ok (fun v g' => v = rd g 143 34 ∧ rd g' 143 2 = 0 ∧ rd g' 143 38 = 1 ∧ (∀ j, i ≤ j → j < 5 → rd g' 162 j = rd g 161 j) ∧ (∀ c j, 0 ≤ c → 0 ≤ j → (c ≠ 162 ∨ j < i) → (c ≠ 143 ∨ (j ≠ 2 ∧ j ≠ 38)) → rd g' c j = rd g c j)) (EI X (d + 10) 332 43 [some (.inr (.inr 143)), none, some (.inl i)] [] S0 (ov g)) := by
  have u1 : unV 3 (.inl 1) = some 1 := rfl
  intro k
  induction k with
  | zero =>
    intro i g hk i0
    rw [e_332_43, if_neg (show ¬ i < 5 by omega)]
    simp (disch := omega) only [↓G_mod, ↓P_mod, u1, ↓oK_some, rd_wr_ix, ↓K_mod, ↓oC_of (m_202 _)]
    refine Ok_some ⟨rfl, rd_wr_eq _ _ _ _, ?_, fun j a b => by omega, fun c j a b h h2 => ?_⟩
    · rw [rd_wr_ix _ _ (by omega) (by omega) (by omega), rd_wr_eq]
    · by_cases w : c = 143
      · subst w; rw [rd_wr_ix _ _ (by omega) b (by omega), rd_wr_ix _ _ (by omega) b (by omega)]
      · rw [rd_wr_ne _ _ _ _ (by omega) a w, rd_wr_ne _ _ _ _ (by omega) a w]
  | succ k ih =>
    intro i g hk i0
    rw [e_332_43, if_pos (show i < 5 by omega)]
    simp (disch := omega) only [↓G_mod, ↓al_161 _, ↓as_162, w32_id]
    refine Ok_mono (ih (i + 1) (wr g 162 i (rd g 161 i)) (by omega) (by omega)) ?_
    rintro v g2 ⟨q1, q2, q3, q4, q5⟩
    refine ⟨?_, q2, q3, fun j a b => ?_, fun c j a b h h2 => ?_⟩
    · rw [q1]; exact rd_wr_ne _ _ _ _ (by omega) (by omega) (by omega)
    · by_cases z : j = i
      · rw [q5 _ _ (by omega) (by omega) (by omega) (by omega), z, rd_wr_eq]
      · rw [q4 j (by omega) b]; exact rd_wr_ne _ _ _ _ (by omega) (by omega) (by omega)
    · rw [q5 c j a b (by omega) h2]
      by_cases z : c = 162
      · subst z; exact rd_wr_ix _ _ i0 b (by omega)
      · exact rd_wr_ne _ _ _ _ (by omega) a z
theorem p_live (iv : IV N g) (hN : N + 300 < 800000) (v : Int) : Pr (IV (N + 300)) (MI X (d + 40) 176 [.inr (.inr 1), .inl v] S0 (ov g)) (fun g1 => MI X (d + 40) 332 [.inr (.inr 143), .inl v] S0 (ov g1)) := by
  obtain ⟨s, hs⟩ := iv.1
  have rm := DS_RM hs
  have hl : isL 141 := Or.inl rfl
  have hb := isD19
  by_cases hv : 0 ≤ v ∧ v ≤ 9999
  case neg =>
    refine Pr_ask (q := (-1, 1)) iv (by omega) ?_ (fun g1 f => ?_)
    · rw [e_176]
      by_cases h1 : v < 0
      · rw [if_pos h1, K_top]; exact AnC_no (FC_rf g) 1
      · rw [if_neg h1, if_pos (show 9999 < v by omega), K_top]; exact AnC_no (FC_rf g) 1
    · rw [e_332, oC_of (m_212 _ _ _ _ _), if_b2i, if_neg hv, K_mod]
      exact AnM_no (FN_rf g1) 1
  obtain ⟨y0, y⟩ := hs.2.2.2.2
  rcases y with ⟨t0, e11⟩ | ⟨t1, l0, l60, f, hB⟩
  · have t0 : rd g 32 0 = 0 := t0
    refine Pr_ask (q := (-1, 6)) iv (by omega) ?_ (fun g1 f => ?_)
    · rw [e_176, if_neg (show ¬ v < 0 by omega), if_neg (show ¬ 9999 < v by omega)]
      simp only [↓G_top, ↓G_daw hb, ↓G_yrs hb, Int.reduceAdd, t0, ↓reduceIte, ↓K_top]
      exact AnC_no (FC_rf g) 6
    · have e : rd g1 144 11 = -1 := (RM_FC rm f 11 (by omega) (by omega)).trans e11
      rw [e_332, oC_of (m_212 _ _ _ _ _), if_b2i, if_pos hv]
      simp (disch := omega) only [↓G_mod, ↓al_144 _, e, ↓reduceIte, ↓K_mod]
      exact AnM_no (FN_rf g1) 6
  have t1' : rd g 32 0 = 1 := t1
  have hN0 := IV_0 iv
  generalize hns : rd g (19 + 13) 1 = ns at hB y0
  have hC : Ok (fun v' g1 => v' = (wk (cwG g 19) f 0 ns (s, c0L v)).2.2 3 ∧ rd g1 1 15 = 0 ∧ RD g1 19 (wk (cwG g 19) f 0 ns (s, c0L v)).2.1 ∧ RL g1 141 (wk (cwG g 19) f 0 ns (s, c0L v)).2.2 ∧ WI N (s 0) (s 1) (wk (cwG g 19) f 0 ns (s, c0L v)).2 ∧ (∀ c i, 0 ≤ c → 0 ≤ i → (c < 125 ∨ 133 < c) → c ≠ 24 → c ≠ 26 → c ≠ 29 → (c ≠ 19 ∨ i < 14 ∨ 18 < i) → c ≠ 141 → (c ≠ 1 ∨ i ≠ 15) → rd g1 c i = rd g c i)) (MI X (d + 40) 176 [.inr (.inr 1), .inl v] S0 (ov g)) := by
    rw [e_176, if_neg (show ¬ v < 0 by omega), if_neg (show ¬ 9999 < v by omega)]
    simp only [↓G_top, ↓G_daw hb, ↓G_yrs hb, Int.reduceAdd, t1']
    rw [if_neg (by decide)]
    simp only [↓G_top, ↓K_liv hl]
    refine Ok_bind (c_68 (d := d + 27) hb hl hN hs.1 hs.2.2.1 hv.1 (by omega) hns y0.2 f hB (fun _ _ _ _ _ _ => rfl)) ?_
    rintro v2 g2 ⟨q1, q2, q3, q4⟩
    have e3 : rd g2 141 3 = (wk (cwG g 19) f 0 ns (s, c0L v)).2.2 3 := q2 3 (by omega) (by omega)
    simp only [↓G_top, ↓G_liv hl, ↓K_top, e3, ↓oC_of (c_181 _)]
    refine Ok_some ⟨rfl, rd_wr_eq _ _ _ _, RD_fr q1 (fun c i a b => rd_wr_ne _ _ _ _ (by omega) (by omega) (by omega)), RL_fr q2 (fun i a => rd_wr_ne _ _ _ _ (by omega) (by omega) (by omega)), q3, fun c i a b h1 h2 h3 h4 h5 h6 h7 => ?_⟩
    have e1 : rd (wr g2 1 15 0) c i = rd g2 c i := by
      by_cases w : c = 1
      · subst w; exact rd_wr_ix _ _ (by omega) b (by omega)
      · exact rd_wr_ne _ _ _ _ (by omega) a w
    rw [e1]
    exact q4 c i a b h1 (by omega) (by omega) (by omega) h5 h6
  have w28 := wk_28 (cwG g 19) 1 f 0 ns (s, c0L v) ⟨rfl, by show (0 : Int) ≤ 0; omega, by show (0 : Int) ≤ 1; omega⟩
  refine Ok_mono hC ?_
  generalize hy : (wk (cwG g 19) f 0 ns (s, c0L v)).2 = y at w28
  rintro v' g1 ⟨a1, a2, a3, a4, a5, a6⟩
  have rm1 : RM g1 s := fun i a b => by rw [a6 _ _ (by omega) a (by omega) (by omega) (by omega) (by omega) (by omega) (by omega) (by omega)]; exact rm i a b
  have rw1 : Rw g1 (rwG g 0) := fun r j x1 x2 x3 x4 => by
    rw [a6 _ _ (by omega) (by omega) (by omega) (by omega) (by omega) (by omega) (by omega) (by omega) (by omega)]
    show rd g 144 (104 + 6 * r + j) = rd g 144 (472 * 0 + 104 + 6 * r + j)
    rw [show 472 * 0 + 104 + 6 * r + j = 104 + 6 * r + j by omega]
  have hM : Ok (fun w g2 => w = y.2 3 ∧ rd g2 143 2 = 0 ∧ rd g2 143 38 = 1 ∧ RM g2 y.1 ∧ y.1 11 = s 11 ∧ (∀ j, 0 ≤ j → j < 5 → rd g2 162 j = y.2 (4 + j)) ∧ (∀ c i, 0 ≤ c → 0 ≤ i → (c ≠ 144 ∨ 104 ≤ i) → (c < 160 ∨ 162 < c) → (c ≠ 143 ∨ (i ≠ 2 ∧ i ≠ 33 ∧ i ≠ 34 ∧ i ≠ 38)) → rd g2 c i = rd g1 c i)) (MI X (d + 40) 332 [.inr (.inr 143), .inl v] S0 (ov g1)) := by
    have e : rd g1 144 11 = s 11 := rm1 11 (by omega) (by omega)
    rw [e_332, oC_of (m_212 _ _ _ _ _), if_b2i, if_pos hv, g_at, al_144 X g1 (by omega) (by omega), e, if_neg (show ¬ s 11 = -1 by omega), K_mod]
    have m31 := m_331 (X := X) (d := d + 29) (v := v) hN rm1 hs.2.2.1 hv.1 (by omega) rfl l60 f hB rw1
    rw [hy] at m31
    refine Ok_bind m31 ?_
    rintro v2 g2 ⟨q1, q2, q3, q4, q5⟩
    refine Ok_mono (m_332_l (d := d + 30) 5 0 g2 (by omega) (by omega)) ?_
    rintro w g3 ⟨p1, p2, p3, p4, p5⟩
    obtain ⟨n1, n2, n3, n4, n5, n6, n7⟩ := q2
    refine ⟨p1.trans n2, p2, p3, fun i a b => ?_, q4, fun j j0 j1 => ?_, fun c i a b h1 h2 h3 => ?_⟩
    · rw [p5 _ _ (by omega) a (by omega) (by omega)]; exact q1 i a b
    · rw [p4 j j0 j1]
      have hj : j = 0 ∨ j = 1 ∨ j = 2 ∨ j = 3 ∨ j = 4 := by omega
      rcases hj with rfl | rfl | rfl | rfl | rfl
      · exact n3
      · exact n4
      · exact n5
      · exact n6
      · exact n7
    · rw [p5 c i a b (by omega) (by omega)]
      exact q5 c i a b h1 (by omega) (by omega) (by omega)
  refine Ok_mono hM ?_
  rintro w g2 ⟨b1, b2, b3, b4, b11, b5, b6⟩
  have e : rd g2 1 15 = rd g2 143 2 := by rw [b2, b6 _ _ (by omega) (by omega) (by omega) (by omega) (by omega), a2]
  have k : ∀ c i, 0 ≤ i → ((c = 1 ∧ (i = 13 ∨ i = 14 ∨ (16 ≤ i ∧ i ≤ 19))) ∨ c = 10 ∨ c = 15 ∨ (62 ≤ c ∧ c ≤ 124) ∨ (c = 143 ∧ (i = 3 ∨ i = 4 ∨ i = 10 ∨ i = 16 ∨ i = 17 ∨ i = 39)) ∨ (c = 144 ∧ 104 ≤ i ∧ i < 1888) ∨ (c = 145 ∧ i < 56) ∨ c = 149 ∨ (30 ≤ c ∧ c ≤ 39) ∨ (4 ≤ c ∧ c ≤ 9) ∨ (146 ≤ c ∧ c ≤ 148)) → rd g2 c i = rd g c i := fun c i a h => (b6 c i (by omega) a (by omega) (by omega) (by omega)).trans (a6 c i (by omega) a (by omega) (by omega) (by omega) (by omega) (by omega) (by omega) (by omega))
  obtain ⟨i1, i2, i3, i4, i5, i6⟩ := a5
  obtain ⟨-, v2, v3, -, v5, v6, v7, v8, v9⟩ := iv
  obtain ⟨h1, h2, h3, ⟨n1, n2⟩, h5⟩ := hs
  obtain ⟨-, i8, -, i6', -⟩ := id h3
  refine ⟨a1.trans b1.symm, e, ⟨y.1, ?_, fun i x z => ?_, Iv_le i1 (by omega), ⟨fun t x z => ?_, fun t x z => ?_⟩, YR_fr h5 (by omega) i6 b11 (k _ _ (by omega) (by omega)) (k _ _ (by omega) (by omega)) (fun c t x1 x2 z w => k _ _ z (by omega)) (fun i x z => k _ _ (by omega) (by omega))⟩, TR_fr v2 (fun c i h a => k c i a (by omega)), TP_fr v3 (fun c i a h => k c i a (by omega)), e, FA_fr v5 (fun c i h => k c i (by omega) (by omega)), FR2_fr v6 (fun c i h => k c i (by omega) (by omega)), MK_fr v7 (by omega) (fun c i a h => k c i a (by omega)), ⟨?_, ?_, fun _ => ⟨fun j j0 j1 => ?_, ?_⟩⟩, RW_fr v9 (fun i a => k 15 i a (by omega))⟩
  · have g2f : ∀ c i, 19 ≤ c → c ≤ 29 → 0 ≤ i → rd g2 c i = rd g1 c i := fun c i x z w => b6 c i (by omega) w (by omega) (by omega) (by omega)
    exact RD_fr a3 (fun c i x z => by
      by_cases w : 0 ≤ i
      · exact g2f c i (by omega) (by omega) w
      · have := g2f c 0 (by omega) (by omega) (by omega)
        rw [show rd g2 c i = rd g2 c 0 by unfold rd; rw [show i.toNat = (0 : Int).toNat by omega], show rd g1 c i = rd g1 c 0 by unfold rd; rw [show i.toNat = (0 : Int).toNat by omega]]
        exact this)
  · rw [show 472 * 0 + i = i by omega]; exact b4 i x z
  · rw [i5] at z
    rw [k _ _ x (by omega), k 145 _ (by omega) (by omega)]; exact n1 t x z
  · rw [i6] at z
    rw [k _ _ x (by omega), k 145 _ (by omega) (by omega)]; exact n2 t x z
  · rw [b3, b6 _ _ (by omega) (by omega) (by omega) (by omega) (by omega), a4 2 (by omega) (by omega), w28.1]
  · rw [b6 _ _ (by omega) (by omega) (by omega) (by omega) (by omega), a4 2 (by omega) (by omega), w28.1]; exact Or.inr rfl
  · rw [b5 j j0 j1, b6 _ _ (by omega) (by omega) (by omega) (by omega) (by omega), a4 (4 + j) (by omega) (by omega)]
  · rw [b6 _ _ (by omega) (by omega) (by omega) (by omega) (by omega), a4 8 (by omega) (by omega)]; exact w28.2
end
