/-! a DUEL that a TRAY tells: the class -/
/-- the ACTS w i .., one behind the other: could all be; the bout behind them; how often each side held back -/
def rpF (w : Int → Int) : Nat → Int → (Int → Int) → Int → Int → Bool × (Int → Int) × Int × Int
  | 0, _, B, x, y => (true, B, x, y)
  | k + 1, i, B, x, y => if B 0 = 0 ∨ B 1 = 0 ∨ ¬ caB B (w i) then (false, B, x, y) else rpF w k (i + 1) (plB B (w i)) (if (w i ≠ 3 ∧ caB B 3) ∧ B 6 % 2 = 0 then x + 1 else x) (if (w i ≠ 3 ∧ caB B 3) ∧ B 6 % 2 = 1 then y + 1 else y)
theorem rpF_s (w : Int → Int) (k : Nat) (i : Int) (B : Int → Int) (x y : Int) : rpF w (k + 1) i B x y = if B 0 = 0 ∨ B 1 = 0 ∨ ¬ caB B (w i) then (false, B, x, y) else rpF w k (i + 1) (plB B (w i)) (if (w i ≠ 3 ∧ caB B 3) ∧ B 6 % 2 = 0 then x + 1 else x) (if (w i ≠ 3 ∧ caB B 3) ∧ B 6 % 2 = 1 then y + 1 else y) := rfl
/-- the DAWN in which that DUEL goes -/
def yR (s : Int → Int) (m o : Int) : Int → Int := meS (us (us s (44 + 10 * m + 1) (mn s m 2)) (44 + 10 * o + 1) (mn s o 2)) m o
section
variable {X : Xs} {d : Nat} {g : Mem} {s : Int → Int} {N : Int}
theorem yR_all (hi : Iv N s) {m o : Int} (h : two s m o) : Iv N (yR s m o) ∧ yR s m o 6 = m ∧ yR s m o 7 = o ∧ boN (yR s m o) 0 = mn s m 2 ∧ boN (yR s m o) 1 = mn s o 2 ∧ boN (yR s m o) 4 = 0 ∧ boN (yR s m o) 5 = s 2 ∧ boN (yR s m o) 6 = 0 ∧ (∀ j, j = 2 ∨ j = 3 ∨ (7 ≤ j ∧ j ≤ 17) → boN (yR s m o) j = boP s m o j) := by
  obtain ⟨h1, h2, h3, h4, h5⟩ := id h
  obtain ⟨i0, i1, i2, i3, -, -, -, -, -, -, -, -, -, im, -⟩ := id hi
  have m1 := im m h1 h2
  have o1 := im o h3 h4
  have a1 : Iv N (us s (44 + 10 * m + 1) (mn s m 2)) := Iv_um hi _ h1 h2 (Or.inr (Or.inl ⟨rfl, by omega, by omega⟩))
  have e0 : ∀ i, mn (us s (44 + 10 * m + 1) (mn s m 2)) i 2 = mn s i 2 := fun i => by rw [um_m _ _ _ _ (by omega) (by omega) (by omega) (by omega), if_neg (by omega)]
  have e1 : us s (44 + 10 * m + 1) (mn s m 2) 1 = s 1 := um_k s _ h1 (by omega) (by omega)
  have a2 : Iv N (us (us s (44 + 10 * m + 1) (mn s m 2)) (44 + 10 * o + 1) (mn s o 2)) := Iv_um a1 _ h3 (by rw [e1]; exact h4) (Or.inr (Or.inl ⟨rfl, by omega, by rw [e0]; omega⟩))
  generalize hy : us (us s (44 + 10 * m + 1) (mn s m 2)) (44 + 10 * o + 1) (mn s o 2) = y at a2
  have yk : ∀ j, j < 44 → y j = s j := fun j hj => by subst hy; rw [um_k _ _ h3 (by omega) hj, um_k _ _ h1 (by omega) hj]
  have ym : ∀ i v, 0 ≤ v → v < 10 → v ≠ 1 → mn y i v = mn s i v := fun i v a b c => by
    subst hy
    rw [um_m _ _ _ _ (by omega) (by omega) a b, if_neg (by omega), um_m _ _ _ _ (by omega) (by omega) a b, if_neg (by omega)]
  have yo : mn y o 1 = mn s o 2 := by subst hy; rw [um_m _ _ _ _ (by omega) (by omega) (by omega) (by omega), if_pos ⟨rfl, rfl⟩]
  have ymm : mn y m 1 = mn s m 2 := by subst hy; rw [um_m _ _ _ _ (by omega) (by omega) (by omega) (by omega), if_neg (by omega), um_m _ _ _ _ (by omega) (by omega) (by omega) (by omega), if_pos ⟨rfl, rfl⟩]
  have yt : ∀ t v, t < 8 → v < 4 → th y t v = th s t v := fun t v a b => by subst hy; rw [um_t _ _ h3 (by omega) a b, um_t _ _ h1 (by omega) a b]
  have ht : two y m o := ⟨h1, by rw [yk 1 (by omega)]; exact h2, h3, by rw [yk 1 (by omega)]; exact h4, h5⟩
  have hN : 0 ≤ N := by have := hi.2.2.2.2.2.2.2.2.2.2.2.2.2.2.2.1; have := Iv_aw hi; omega
  have a3 := Iv_me a2 hN ht (by rw [ymm, yo]; omega)
  obtain ⟨q6, q7, q8, q9, q10, qj⟩ := me_all y m o
  have e : yR s m o = meS y m o := by unfold yR; rw [hy]
  rw [e]
  have zm : ∀ i v, 0 ≤ i → 0 ≤ v → mn (meS y m o) i v = mn y i v := fun i v a b => qj _ (by omega)
  have zt : ∀ t v, 0 ≤ t → 0 ≤ v → th (meS y m o) t v = th y t v := fun t v a b => qj _ (by omega)
  have zb : ∀ t, -1 ≤ t → t < 8 → beY (meS y m o) t = beY s t := fun t a b => by
    unfold beY
    by_cases z : t = -1
    · rw [if_pos z, if_pos z]
    · rw [if_neg z, if_neg z, zt t 3 (by omega) (by omega), zt t 2 (by omega) (by omega), yt t 3 b (by omega), yt t 2 b (by omega)]
  have zh : ∀ i v z, 0 ≤ i → -1 ≤ mn s i 3 → mn s i 3 < 8 → 0 ≤ v → v < 4 → hdv (meS y m o) i v z = hdv s i v z := fun i v z a b c e1 e2 => by
    unfold hdv
    rw [zm i 3 a (by omega), ym i 3 (by omega) (by omega) (by omega)]
    by_cases w : mn s i 3 = -1
    · rw [if_pos w, if_pos w]
    · rw [if_neg w, if_neg w, zt _ v (by omega) e1, yt _ v c e2]
  obtain ⟨b0, b1, b2, b3, b4, b5, b6, b7, b8, b9, b10, b11, b12, b13, b14, b15, b16, b17⟩ := bo_all (meS y m o) m o
  obtain ⟨c0, c1, c2, c3, c4, c5, c6, c7, c8, c9, c10, c11, c12, c13, c14, c15, c16, c17⟩ := bo_all s m o
  have eb : boN (meS y m o) = boP (meS y m o) m o := by show boP (meS y m o) (meS y m o 6) (meS y m o 7) = _; rw [q6, q7]
  rw [eb]
  refine ⟨a3, q6, q7, ?_, ?_, ?_, ?_, ?_, fun j hj => ?_⟩
  · rw [b0, zm m 1 h1 (by omega), ymm]
  · rw [b1, zm o 1 h3 (by omega), yo]
  · rw [b4, q8]
  · rw [b5, q9, yk 2 (by omega)]
  · rw [b6, q10]
  · have hc : j = 2 ∨ j = 3 ∨ j = 7 ∨ j = 8 ∨ j = 9 ∨ j = 10 ∨ j = 11 ∨ j = 12 ∨ j = 13 ∨ j = 14 ∨ j = 15 ∨ j = 16 ∨ j = 17 := by omega
    rcases hc with rfl | rfl | rfl | rfl | rfl | rfl | rfl | rfl | rfl | rfl | rfl | rfl | rfl
    · rw [b2, c2, zm m 3 h1 (by omega), ym m 3 (by omega) (by omega) (by omega), zb _ (by omega) (by omega)]
    · rw [b3, c3, zm o 3 h3 (by omega), ym o 3 (by omega) (by omega) (by omega), zb _ (by omega) (by omega)]
    · rw [b7, c7, zm m 2 h1 (by omega), ym m 2 (by omega) (by omega) (by omega)]
    · rw [b8, c8, zm o 2 h3 (by omega), ym o 2 (by omega) (by omega) (by omega)]
    · rw [b9, c9, zm m 0 h1 (by omega), ym m 0 (by omega) (by omega) (by omega)]
    · rw [b10, c10, zm o 0 h3 (by omega), ym o 0 (by omega) (by omega) (by omega)]
    · rw [b11, c11, zh m _ _ h1 (by omega) (by omega) (by omega) (by omega)]
    · rw [b12, c12, zh o _ _ h3 (by omega) (by omega) (by omega) (by omega)]
    · rw [b13, c13, zh m _ _ h1 (by omega) (by omega) (by omega) (by omega)]
    · rw [b14, c14, zh o _ _ h3 (by omega) (by omega) (by omega) (by omega)]
    · rw [b15, c15, qj 2 (by omega), yk 2 (by omega)]
    · rw [b16, c16, qj 3 (by omega), yk 3 (by omega)]
    · rw [b17, c17, qj 4 (by omega), yk 4 (by omega)]
theorem c_1 (r : RD g 19 s) (hi : Iv N s) {m o : Int} (h : two s m o) : Ok (fun _ g' => RB g' (boN (yR s m o)) ∧ rd g' 127 0 = 0 ∧ rd g' 127 1 = 0 ∧ FB g g') (MI X (d + 2) 1 [.inr (.inr 125), .inr (.inr 19), .inl m, .inl o] S0 (ov g)) := by
  obtain ⟨h1, h2, h3, h4, h5⟩ := id h
  obtain ⟨y1, y2, y3, y4, y5, y6, y7, y8, y9⟩ := yR_all hi h
  generalize boN (yR s m o) = B at *
  rw [e_1]
  simp only [↓K_bou]
  refine Ok_bind (c_3 isD19 r hi m o h1 h2 h3 h4) ?_
  rintro v g1 ⟨q, q2⟩
  obtain ⟨x2, x3, x7, x8, x9, x10, x11, x12, x13, x14, x15, x16, x17⟩ := q
  obtain ⟨c0, c1, c2, c3, c4, c5, c6, c7, c8, c9, c10, c11, c12, c13, c14, c15, c16, c17⟩ := bo_all s m o
  simp (disch := omega) only [↓K_bou, ↓G_bou, ↓P_bou, ↓al_126 _, ↓as_126, ↓al_127 _, ↓as_127, ↓al_128 _, ↓as_128, ↓al_129 _, ↓as_129, ↓al_130 _, ↓as_130, ↓al_131 _, ↓as_131, ↓al_132 _, ↓as_132, ↓al_133 _, ↓as_133, rd_wr_eq, rd_wr_ne, rd_wr_ix, x7, x8, x15]
  refine Ok_some ⟨?_, ?_, ?_, ?_⟩
  · unfold RB
    simp (disch := omega) only [rd_wr_eq, rd_wr_ne, rd_wr_ix, x2, x3, x7, x8, x9, x10, x11, x12, x13, x14, x15, x16, x17, y4, y5, y6, y7, y8, y9, and_self, true_and, and_true]
    rw [c7, c8, c15]
    exact ⟨rfl, rfl, rfl⟩
  · simp (disch := omega) only [rd_wr_eq, rd_wr_ne, rd_wr_ix]
  · simp (disch := omega) only [rd_wr_eq, rd_wr_ne, rd_wr_ix]
  · intro c i a b
    simp (disch := omega) only [rd_wr_ne]
    exact q2 c i a b
theorem RB_127 {B : Int → Int} (r : RB g B) (i x : Int) : RB (wr g 127 i x) B := by
  unfold RB at *
  simp (disch := omega) only [rd_wr_ne]
  exact r
theorem c_12 {B : Int → Int} (r : RB g B) (hi : IB B) (a : Int) {x y : Int} (hx : rd g 127 0 = x) (hy : rd g 127 1 = y) (x0 : 0 ≤ x) (x1 : x < 1000) (y0 : 0 ≤ y) (y1 : y < 1000) : Ok (fun _ g' => RB g' B ∧ rd g' 127 0 = (if (a ≠ 3 ∧ caB B 3) ∧ B 6 % 2 = 0 then x + 1 else x) ∧ rd g' 127 1 = (if (a ≠ 3 ∧ caB B 3) ∧ B 6 % 2 = 1 then y + 1 else y) ∧ FB g g') (MI X (d + 2) 12 [.inr (.inr 125), .inl a] S0 (ov g)) := by
  rw [e_12]
  by_cases h3 : a = 3
  · rw [if_pos h3]
    refine Ok_some ⟨r, ?_, ?_, fun _ _ _ _ => rfl⟩
    · rw [if_neg (fun z => z.1.1 h3)]; exact hx
    · rw [if_neg (fun z => z.1.1 h3)]; exact hy
  rw [if_neg h3]
  simp only [↓K_bou, ↓oC_of (c_11 r hi 3), ↓if_b2i]
  by_cases hc : caB B 3
  case neg =>
    rw [if_neg hc]
    refine Ok_some ⟨r, ?_, ?_, fun _ _ _ _ => rfl⟩
    · rw [if_neg (fun z => hc z.1.2)]; exact hx
    · rw [if_neg (fun z => hc z.1.2)]; exact hy
  rw [if_pos hc]
  simp only [↓K_bou, ↓G_bou, ↓oC_of (c_6 r hi)]
  have hm : B 6 % 2 = 0 ∨ B 6 % 2 = 1 := by omega
  rcases hm with e | e
  · have hv : rd g 127 (B 6 % 2) = x := by rw [e]; exact hx
    simp (disch := omega) only [↓al_127 _, ↓as_127, hv, w32_id]
    rw [show wr g 127 (B 6 % 2) (x + 1) = wr g 127 0 (x + 1) by rw [e]]
    refine Ok_some ⟨RB_127 r _ _, ?_, ?_, FB_wr _ _ _ (by omega)⟩
    · rw [rd_wr_eq, if_pos ⟨⟨h3, hc⟩, e⟩]
    · rw [rd_wr_ix _ _ (by omega) (by omega) (by omega), if_neg (fun z => by omega)]; exact hy
  · have hv : rd g 127 (B 6 % 2) = y := by rw [e]; exact hy
    simp (disch := omega) only [↓al_127 _, ↓as_127, hv, w32_id]
    rw [show wr g 127 (B 6 % 2) (y + 1) = wr g 127 1 (y + 1) by rw [e]]
    refine Ok_some ⟨RB_127 r _ _, ?_, ?_, FB_wr _ _ _ (by omega)⟩
    · rw [rd_wr_ix _ _ (by omega) (by omega) (by omega), if_neg (fun z => by omega)]; exact hx
    · rw [rd_wr_eq, if_pos ⟨⟨h3, hc⟩, e⟩]
theorem ov_rd {g1 g2 : Mem} (h : ov g1 = ov g2) {c i : Int} (hr : rT c.toNat i.toNat = none) : rd g1 c i = rd g2 c i := by
  have e := congrFun (congrFun h c.toNat) i.toNat
  unfold ov at e
  rw [hr] at e
  exact e
theorem c_14f {B : Int → Int} (r : RB g B) (hi : IB B) (i : Int) (h : i = 0 ∨ i = 1) : Ok (fun _ g' => rd g' 127 0 = rd g 127 0 ∧ rd g' 127 1 = rd g 127 1) (MI X (d + 1) 14 [.inr (.inr 125), .inl i] S0 (ov g)) := by
  have hr := r
  have hi' := hi
  obtain ⟨r0, r1, r2, r3, r4, r5, r6, r7, r8, r9, r10, r11, r12, r13, r14, r15, r16, r17⟩ := r
  unfold IB at hi
  have hm : ∀ x, 0 ≤ x → x ≤ 60 → 0 ≤ am_min x (huB B i) ∧ am_min x (huB B i) ≤ x := by
    intro x h1 h2
    have : 0 ≤ huB B i := by unfold huB; split <;> omega
    unfold am_min
    split <;> omega
  rw [e_14]
  rcases h with rfl | rfl
  · have m1 := hm (B 1) (by omega) (by omega)
    simp (disch := omega) only [↓K_bou, ↓G_bou, ↓P_bou, ↓al_126 _, ↓as_126, ↓al_127 _, ↓as_127, ↓al_128 _, ↓as_128, ↓al_129 _, ↓as_129, ↓al_130 _, ↓as_130, ↓al_131 _, ↓as_131, ↓al_132 _, ↓as_132, ↓al_133 _, ↓as_133, ↓oK_some, ↓oC_some, ↓if_pos, ↓if_neg, rd_wr_eq, rd_wr_ne, rd_wr_ix, w32_id, ↓oC_of (c_10 hr hi' _ (Or.inl rfl)), r1, r2, Int.reduceAdd, Int.reduceSub, Int.sub_zero]
    split <;> exact Ok_some ⟨by simp (disch := omega) only [rd_wr_ne], by simp (disch := omega) only [rd_wr_ne]⟩
  · have m1 := hm (B 0) (by omega) (by omega)
    simp (disch := omega) only [↓K_bou, ↓G_bou, ↓P_bou, ↓al_126 _, ↓as_126, ↓al_127 _, ↓as_127, ↓al_128 _, ↓as_128, ↓al_129 _, ↓as_129, ↓al_130 _, ↓as_130, ↓al_131 _, ↓as_131, ↓al_132 _, ↓as_132, ↓al_133 _, ↓as_133, ↓oK_some, ↓oC_some, ↓if_pos, ↓if_neg, rd_wr_eq, rd_wr_ne, rd_wr_ix, w32_id, ↓oC_of (c_10 hr hi' _ (Or.inr rfl)), r0, r3, Int.reduceAdd, Int.reduceSub, Int.sub_self]
    split <;> exact Ok_some ⟨by simp (disch := omega) only [rd_wr_ne], by simp (disch := omega) only [rd_wr_ne]⟩
theorem c_14g {B : Int → Int} (r : RB g B) (hi : IB B) (i : Int) (h : i = 0 ∨ i = 1) : Ok (fun _ g' => (RB g' (plI B i 3) ∧ rd g' 125 12 = am_min (B (1 - i)) (huB B i) ∧ FB g g') ∧ rd g' 127 0 = rd g 127 0 ∧ rd g' 127 1 = rd g 127 1) (MI X (d + 1) 14 [.inr (.inr 125), .inl i] S0 (ov g)) := by
  obtain ⟨v, g1, e1, q⟩ := c_14 (X := X) (d := d) r hi i h
  obtain ⟨w, g2, e2, p1, p2⟩ := c_14f (X := X) (d := d) r hi i h
  have eo : ov g1 = ov g2 := congrArg (fun z : Rs => z.2.2) (Option.some.inj (e1.symm.trans e2))
  exact ⟨v, g1, e1, q, (ov_rd eo rfl).trans p1, (ov_rd eo rfl).trans p2⟩
theorem c_13f {B : Int → Int} (r : RB g B) (hi : IB B) (a : Int) (h0 : 0 ≤ a) (h1 : a ≤ 3) : Ok (fun _ g' => rd g' 127 0 = rd g 127 0 ∧ rd g' 127 1 = rd g 127 1) (MI X (d + 2) 13 [.inr (.inr 125), .inl a] S0 (ov g)) := by
  have hr := r
  have hi' := hi
  obtain ⟨r0, r1, r2, r3, r4, r5, r6, r7, r8, r9, r10, r11, r12, r13, r14, r15, r16, r17⟩ := r
  unfold IB at hi
  have hm : B 6 % 2 = 0 ∨ B 6 % 2 = 1 := by omega
  have ha : a = 0 ∨ a = 1 ∨ a = 2 ∨ a = 3 := by omega
  rw [e_13]
  simp only [↓K_bou, ↓G_bou, ↓P_bou, ↓al_126 _, ↓as_126, ↓al_127 _, ↓as_127, ↓al_128 _, ↓as_128, ↓al_129 _, ↓as_129, ↓al_130 _, ↓as_130, ↓al_131 _, ↓as_131, ↓al_132 _, ↓as_132, ↓al_133 _, ↓as_133, ↓oC_of (c_6 hr hi')]
  rcases hm with e | e <;> rw [e] <;> rcases ha with rfl | rfl | rfl | rfl
  case inl.inl => 
    simp (disch := omega) only [↓K_bou, ↓G_bou, ↓P_bou, ↓al_126 _, ↓as_126, ↓al_127 _, ↓as_127, ↓al_128 _, ↓as_128, ↓al_129 _, ↓as_129, ↓al_130 _, ↓as_130, ↓al_131 _, ↓as_131, ↓al_132 _, ↓as_132, ↓al_133 _, ↓as_133, ↓oK_some, ↓oC_some, ↓if_pos, ↓if_neg, rd_wr_eq, rd_wr_ne, rd_wr_ix, w32_id, r0, r7, r6]
    exact Ok_some ⟨by simp (disch := omega) only [rd_wr_ne], by simp (disch := omega) only [rd_wr_ne]⟩
  case inl.inr.inl =>
    simp (disch := omega) only [↓K_bou, ↓G_bou, ↓P_bou, ↓al_126 _, ↓as_126, ↓al_127 _, ↓as_127, ↓al_128 _, ↓as_128, ↓al_129 _, ↓as_129, ↓al_130 _, ↓as_130, ↓al_131 _, ↓as_131, ↓al_132 _, ↓as_132, ↓al_133 _, ↓as_133, ↓oK_some, ↓oC_some, ↓if_pos, ↓if_neg, rd_wr_eq, rd_wr_ne, rd_wr_ix, w32_id, r4, r6]
    exact Ok_some ⟨by simp (disch := omega) only [rd_wr_ne], by simp (disch := omega) only [rd_wr_ne]⟩
  case inl.inr.inr.inl =>
    simp (disch := omega) only [↓K_bou, ↓G_bou, ↓P_bou, ↓al_126 _, ↓as_126, ↓al_127 _, ↓as_127, ↓al_128 _, ↓as_128, ↓al_129 _, ↓as_129, ↓al_130 _, ↓as_130, ↓al_131 _, ↓as_131, ↓al_132 _, ↓as_132, ↓al_133 _, ↓as_133, ↓oK_some, ↓oC_some, ↓if_pos, ↓if_neg, rd_wr_eq, rd_wr_ne, rd_wr_ix, w32_id, r4, r6]
    exact Ok_some ⟨by simp (disch := omega) only [rd_wr_ne], by simp (disch := omega) only [rd_wr_ne]⟩
  case inl.inr.inr.inr =>
    simp (disch := omega) only [↓K_bou, ↓G_bou, ↓P_bou, ↓al_126 _, ↓as_126, ↓al_127 _, ↓as_127, ↓al_128 _, ↓as_128, ↓al_129 _, ↓as_129, ↓al_130 _, ↓as_130, ↓al_131 _, ↓as_131, ↓al_132 _, ↓as_132, ↓al_133 _, ↓as_133, ↓oK_some, ↓oC_some, ↓if_pos, ↓if_neg, rd_wr_eq, rd_wr_ne, rd_wr_ix, w32_id]
    refine Ok_bind (c_14g (RB_took hr 0) hi' 0 (Or.inl rfl)) ?_
    rintro v g2 ⟨⟨q1, q2, q3⟩, q4, q5⟩
    have q6 : rd g2 125 11 = B 6 := q1.2.2.2.2.2.2.1.trans rfl
    simp (disch := omega) only [↓K_bou, ↓G_bou, ↓P_bou, ↓al_126 _, ↓as_126, ↓al_127 _, ↓as_127, ↓al_128 _, ↓as_128, ↓al_129 _, ↓as_129, ↓al_130 _, ↓as_130, ↓al_131 _, ↓as_131, ↓al_132 _, ↓as_132, ↓al_133 _, ↓as_133, ↓oK_some, ↓oC_some, ↓if_pos, ↓if_neg, rd_wr_eq, rd_wr_ne, rd_wr_ix, w32_id, q6]
    simp (disch := omega) only [rd_wr_ne] at q4 q5
    exact Ok_some ⟨by simp (disch := omega) only [rd_wr_ne, q4], by simp (disch := omega) only [rd_wr_ne, q5]⟩
  case inr.inl =>
    simp (disch := omega) only [↓K_bou, ↓G_bou, ↓P_bou, ↓al_126 _, ↓as_126, ↓al_127 _, ↓as_127, ↓al_128 _, ↓as_128, ↓al_129 _, ↓as_129, ↓al_130 _, ↓as_130, ↓al_131 _, ↓as_131, ↓al_132 _, ↓as_132, ↓al_133 _, ↓as_133, ↓oK_some, ↓oC_some, ↓if_pos, ↓if_neg, rd_wr_eq, rd_wr_ne, rd_wr_ix, w32_id, r1, r8, r6]
    exact Ok_some ⟨by simp (disch := omega) only [rd_wr_ne], by simp (disch := omega) only [rd_wr_ne]⟩
  case inr.inr.inl =>
    simp (disch := omega) only [↓K_bou, ↓G_bou, ↓P_bou, ↓al_126 _, ↓as_126, ↓al_127 _, ↓as_127, ↓al_128 _, ↓as_128, ↓al_129 _, ↓as_129, ↓al_130 _, ↓as_130, ↓al_131 _, ↓as_131, ↓al_132 _, ↓as_132, ↓al_133 _, ↓as_133, ↓oK_some, ↓oC_some, ↓if_pos, ↓if_neg, rd_wr_eq, rd_wr_ne, rd_wr_ix, w32_id, r5, r6]
    exact Ok_some ⟨by simp (disch := omega) only [rd_wr_ne], by simp (disch := omega) only [rd_wr_ne]⟩
  case inr.inr.inr.inl =>
    simp (disch := omega) only [↓K_bou, ↓G_bou, ↓P_bou, ↓al_126 _, ↓as_126, ↓al_127 _, ↓as_127, ↓al_128 _, ↓as_128, ↓al_129 _, ↓as_129, ↓al_130 _, ↓as_130, ↓al_131 _, ↓as_131, ↓al_132 _, ↓as_132, ↓al_133 _, ↓as_133, ↓oK_some, ↓oC_some, ↓if_pos, ↓if_neg, rd_wr_eq, rd_wr_ne, rd_wr_ix, w32_id, r5, r6]
    exact Ok_some ⟨by simp (disch := omega) only [rd_wr_ne], by simp (disch := omega) only [rd_wr_ne]⟩
  case inr.inr.inr.inr =>
    simp (disch := omega) only [↓K_bou, ↓G_bou, ↓P_bou, ↓al_126 _, ↓as_126, ↓al_127 _, ↓as_127, ↓al_128 _, ↓as_128, ↓al_129 _, ↓as_129, ↓al_130 _, ↓as_130, ↓al_131 _, ↓as_131, ↓al_132 _, ↓as_132, ↓al_133 _, ↓as_133, ↓oK_some, ↓oC_some, ↓if_pos, ↓if_neg, rd_wr_eq, rd_wr_ne, rd_wr_ix, w32_id]
    refine Ok_bind (c_14g (RB_took hr 0) hi' 1 (Or.inr rfl)) ?_
    rintro v g2 ⟨⟨q1, q2, q3⟩, q4, q5⟩
    have q6 : rd g2 125 11 = B 6 := q1.2.2.2.2.2.2.1.trans rfl
    simp (disch := omega) only [↓K_bou, ↓G_bou, ↓P_bou, ↓al_126 _, ↓as_126, ↓al_127 _, ↓as_127, ↓al_128 _, ↓as_128, ↓al_129 _, ↓as_129, ↓al_130 _, ↓as_130, ↓al_131 _, ↓as_131, ↓al_132 _, ↓as_132, ↓al_133 _, ↓as_133, ↓oK_some, ↓oC_some, ↓if_pos, ↓if_neg, rd_wr_eq, rd_wr_ne, rd_wr_ix, w32_id, q6]
    simp (disch := omega) only [rd_wr_ne] at q4 q5
    exact Ok_some ⟨by simp (disch := omega) only [rd_wr_ne, q4], by simp (disch := omega) only [rd_wr_ne, q5]⟩
theorem c_13g {B : Int → Int} (r : RB g B) (hi : IB B) (a : Int) (h0 : 0 ≤ a) (h1 : a ≤ 3) : Ok (fun _ g' => (RB g' (plB B a) ∧ rd g' 125 12 = tkB B a ∧ FB g g') ∧ rd g' 127 0 = rd g 127 0 ∧ rd g' 127 1 = rd g 127 1) (MI X (d + 2) 13 [.inr (.inr 125), .inl a] S0 (ov g)) := by
  obtain ⟨v, g1, e1, q⟩ := c_13 (X := X) (d := d) r hi a h0 h1
  obtain ⟨w, g2, e2, p1, p2⟩ := c_13f (X := X) (d := d) r hi a h0 h1
  have eo : ov g1 = ov g2 := congrArg (fun z : Rs => z.2.2) (Option.some.inj (e1.symm.trans e2))
  exact ⟨v, g1, e1, q, (ov_rd eo rfl).trans p1, (ov_rd eo rfl).trans p2⟩
/-- the loop of the ACTS -/
theorem c_194_p {w : Int → Int} (t n : Int) (t0 : 0 ≤ t) (t4 : t < 4) (n1 : n ≤ 20) : ∀ (k : Nat) (i : Int) (B : Int → Int) (x y : Int) (g : Mem), i + k = n → 0 ≤ i → RB g B → IB B → B 6 + k < 1000000 → rd g 127 0 = x → rd g 127 1 = y → 0 ≤ x → x ≤ i → 0 ≤ y → y ≤ i → (∀ j, 0 ≤ j → j < n → rd g (4 + t) j = w j ∧ 0 ≤ w j ∧ w j < 4) → Ok (fun v g' => v = (if (rpF w k i B x y).1 = true then 0 else 7) ∧ ((rpF w k i B x y).1 = true → RB g' (rpF w k i B x y).2.1 ∧ rd g' 127 0 = (rpF w k i B x y).2.2.1 ∧ rd g' 127 1 = (rpF w k i B x y).2.2.2) ∧ FB g g') (EI X (d + 3) 194 128 [some (.inr (.inr 1)), none, none, some (.inl t), some (.inl n), some (.inl i), none, none] [] S0 (ov g)) := by
  intro k
  induction k with
  | zero =>
    intro i B x y g hk i0 r hB h6 hx hy x0 x1 y0 y1 hw
    rw [e_194_128, if_neg (show ¬ i < n by omega)]
    exact Ok_some ⟨rfl, fun _ => ⟨r, hx, hy⟩, fun _ _ _ _ => rfl⟩
  | succ k ih =>
    intro i B x y g hk i0 r hB h6 hx hy x0 x1 y0 y1 hw
    obtain ⟨w1, w2, w3⟩ := hw i i0 (by omega)
    rw [e_194_128, if_pos (show i < n by omega)]
    simp (disch := omega) only [↓G_top, ↓K_trs, ↓K_bou, ↓oC_of (c_110 _ _ _ _ _ _), ↓oC_of (c_7 r), ↓if_b2i, w1, w32_id]
    rw [rpF_s]
    by_cases h1 : B 0 = 0 ∨ B 1 = 0
    · have hh : B 0 = 0 ∨ B 1 = 0 ∨ ¬ caB B (w i) := by rcases h1 with h | h; exact Or.inl h; exact Or.inr (Or.inl h)
      rw [if_pos h1, if_pos hh]
      exact Ok_some ⟨rfl, fun z => (by cases z), fun _ _ _ _ => rfl⟩
    rw [if_neg h1]
    simp (disch := omega) only [↓K_bou, ↓oC_of (c_11 r hB _), ↓if_b2i]
    by_cases h2 : caB B (w i)
    case neg =>
      rw [if_neg h2, if_pos (Or.inr (Or.inr h2))]
      exact Ok_some ⟨rfl, fun z => (by cases z), fun _ _ _ _ => rfl⟩
    have hh : ¬ (B 0 = 0 ∨ B 1 = 0 ∨ ¬ caB B (w i)) := fun z => by
      rcases z with z | z | z
      · exact h1 (Or.inl z)
      · exact h1 (Or.inr z)
      · exact z h2
    rw [if_pos h2, if_neg hh]
    simp only [↓G_top, ↓K_bou]
    refine Ok_bind (c_12 r hB (w i) hx hy x0 (by omega) y0 (by omega)) ?_
    rintro v g1 ⟨a1, a2, a3, a4⟩
    simp only [↓G_top, ↓K_bou]
    refine Ok_bind (c_13g a1 hB (w i) w2 (by omega)) ?_
    rintro v2 g2 ⟨⟨b1, b2, b3⟩, b4, b5⟩
    have e6 : plB B (w i) 6 = B 6 + 1 := (pl_rng hB (w i) (by omega) h2).2.2.2.2.2.2.2.2.2.2.2.1
    refine Ok_mono (ih (i + 1) (plB B (w i)) _ _ g2 (by omega) (by omega) b1 (IB_pl hB (by omega) h2 (by omega)) (by omega) (b4.trans a2) (b5.trans a3) (by split <;> omega) (by split <;> omega) (by split <;> omega) (by split <;> omega) (fun j a c => ?_)) ?_
    · rw [b3 _ _ (by omega) (by omega), a4 _ _ (by omega) (by omega)]
      exact hw j a c
    · rintro v3 g3 ⟨c1, c2, c3⟩
      exact ⟨c1, c2, FB_tr (FB_tr a4 b3) c3⟩
/-- what is wrong with the ACTS that a TRAY tells -/
def alW (w : Int → Int) : Nat → Int → Bool
  | 0, _ => true
  | k + 1, i => decide (0 ≤ w i ∧ w i < 4) && alW w k (i + 1)
theorem alW_s (w : Int → Int) (k : Nat) (i : Int) : alW w (k + 1) i = (decide (0 ≤ w i ∧ w i < 4) && alW w k (i + 1)) := rfl
theorem alW_in (w : Int → Int) : ∀ (k : Nat) (i : Int), alW w k i = true → ∀ j, i ≤ j → j < i + k → 0 ≤ w j ∧ w j < 4
  | 0, i, _, j, h1, h2 => by omega
  | k + 1, i, h, j, h1, h2 => by
    rw [alW_s, Bool.and_eq_true, decide_eq_true_eq] at h
    by_cases e : j = i
    · rw [e]; exact h.1
    · exact alW_in w k (i + 1) h.2 j (by omega) (by omega)
theorem alW_c {w w2 : Int → Int} : ∀ (k : Nat) (i : Int), (∀ j, i ≤ j → j < i + k → w j = w2 j) → alW w k i = alW w2 k i
  | 0, _, _ => rfl
  | k + 1, i, h => by rw [alW_s, alW_s, h i (by omega) (by omega), alW_c k (i + 1) (fun j a b => h j (by omega) (by omega))]
/-- its STATUS; the DUEL itself -/
def rpW (g : Mem) (s : Int → Int) (m o t n : Int) : Int := if ¬ two s m o ∨ n < 0 ∨ 20 < n then 1 else if trN g t n ≠ 0 then trN g t n else if alW (fun i => rd g (4 + t) i) n.toNat 0 = true then 0 else 5
def rpR (g : Mem) (s : Int → Int) (m o t n : Int) : Bool × (Int → Int) × Int × Int := rpF (fun i => rd g (4 + t) i) n.toNat 0 (boN (yR s m o)) 0 0
theorem c_194_l (r : RD g 19 s) (hi : Iv N s) (hN : N < 800000) {m o : Int} (h : two s m o) (t n : Int) (t0 : 0 ≤ t) (t4 : t < 4) (n0 : 0 ≤ n) (n1 : n ≤ 20) : ∀ (k : Nat) (i : Int), i + k = n → 0 ≤ i → (∀ j, 0 ≤ j → j < i → 0 ≤ rd g (4 + t) j ∧ rd g (4 + t) j < 4) → Ok (fun v g' => v = (if alW (fun i => rd g (4 + t) i) k i = true then (if (rpR g s m o t n).1 = true then 0 else 7) else 5) ∧ (v = 0 → RB g' (rpR g s m o t n).2.1 ∧ rd g' 127 0 = (rpR g s m o t n).2.2.1 ∧ rd g' 127 1 = (rpR g s m o t n).2.2.2) ∧ FB g g') (EI X (d + 4) 194 69 [some (.inr (.inr 1)), some (.inl m), some (.inl o), some (.inl t), some (.inl n), some (.inl i), none, none] [] S0 (ov g)) := by
  intro k
  induction k with
  | zero =>
    intro i hk i0 hw
    rw [e_194_69, if_neg (show ¬ i < n by omega)]
    simp only [↓G_top, ↓K_bou]
    refine Ok_bind (c_1 r hi h) ?_
    rintro v g1 ⟨a1, a2, a3, a4⟩
    obtain ⟨y1, y2, y3, y4, y5, y6, y7, y8, y9⟩ := yR_all hi h
    have IBy : IB (boN (yR s m o)) := IB_N y1 (by omega) (by have := h.1; omega)
    have q := c_194_p (X := X) (d := d + 1) (w := fun i => rd g (4 + t) i) t n t0 t4 n1 n.toNat 0 (boN (yR s m o)) 0 0 g1 (by omega) (by omega) a1 IBy (by omega) a2 a3 (by omega) (by omega) (by omega) (by omega) (fun j a b => ⟨a4 _ _ (by omega) (by omega), hw j a (by omega)⟩)
    refine Ok_mono q ?_
    rintro v2 g2 ⟨b1, b2, b3⟩
    rw [show alW (fun i => rd g (4 + t) i) 0 i = true from rfl, if_pos rfl]
    refine ⟨b1, fun z => b2 ?_, FB_tr a4 b3⟩
    by_cases y : (rpF (fun i => rd g (4 + t) i) n.toNat 0 (boN (yR s m o)) 0 0).1 = true
    · exact y
    · rw [if_neg y] at b1; omega
  | succ k ih =>
    intro i hk i0 hw
    rw [e_194_69, if_pos (show i < n by omega)]
    simp (disch := omega) only [↓G_top, ↓K_trs, ↓oC_of (c_110 _ _ _ _ _ _), lcm_lt]
    rw [alW_s]
    by_cases h1 : rd g (4 + t) i < 0
    · rw [if_pos h1, decide_eq_false (show ¬ (0 ≤ rd g (4 + t) i ∧ rd g (4 + t) i < 4) by omega)]
      exact Ok_some ⟨rfl, fun z => by omega, fun _ _ _ _ => rfl⟩
    rw [if_neg h1]
    by_cases h2 : rd g (4 + t) i < 4
    case neg =>
      rw [if_neg h2, decide_eq_false (show ¬ (0 ≤ rd g (4 + t) i ∧ rd g (4 + t) i < 4) by omega)]
      exact Ok_some ⟨rfl, fun z => by omega, fun _ _ _ _ => rfl⟩
    rw [if_pos h2, decide_eq_true (show 0 ≤ rd g (4 + t) i ∧ rd g (4 + t) i < 4 by omega), Bool.true_and, w32_id (x := i + 1) (by omega) (by omega)]
    exact ih (i + 1) (by omega) (by omega) (fun j a b => by
      by_cases z : j = i
      · subst z; omega
      · exact hw j a (by omega))
theorem c_194 (tr : TR g) (r : RD g 19 s) (hi : Iv N s) (hN : N < 800000) (m o t n : Int) : Ok (fun v g' => v = (if rpW g s m o t n = 0 then (if (rpR g s m o t n).1 = true then 0 else 7) else rpW g s m o t n) ∧ (v = 0 → RB g' (rpR g s m o t n).2.1 ∧ rd g' 127 0 = (rpR g s m o t n).2.2.1 ∧ rd g' 127 1 = (rpR g s m o t n).2.2.2) ∧ FB g g') (MI X (d + 4) 194 [.inr (.inr 1), .inl m, .inl o, .inl t, .inl n] S0 (ov g)) := by
  rw [e_194]
  simp only [↓K_top, ↓G_top, ↓P_top, ↓K_daw isD19, ↓oC_of (c_24 isD19 r _ _), ↓if_b2i]
  unfold rpW
  have no1 : ∀ (p : Prop) [Decidable p], p → Ok (fun v g' => v = (if (if p then (1 : Int) else if trN g t n ≠ 0 then trN g t n else if alW (fun i => rd g (4 + t) i) n.toNat 0 = true then 0 else 5) = 0 then (if (rpR g s m o t n).1 = true then 0 else 7) else (if p then 1 else if trN g t n ≠ 0 then trN g t n else if alW (fun i => rd g (4 + t) i) n.toNat 0 = true then 0 else 5)) ∧ (v = 0 → RB g' (rpR g s m o t n).2.1 ∧ rd g' 127 0 = (rpR g s m o t n).2.2.1 ∧ rd g' 127 1 = (rpR g s m o t n).2.2.2) ∧ FB g g') (some (1, S0, ov g)) := fun p _ hp => by
    rw [if_pos hp, if_neg (by decide)]
    exact Ok_some ⟨rfl, fun z => by omega, fun _ _ _ _ => rfl⟩
  by_cases h1 : two s m o
  case neg =>
    rw [if_neg h1]
    exact no1 _ (Or.inl h1)
  rw [if_pos h1]
  have hx := trN_c (g := g) (t := t) (n := n) rfl
  rw [K_trs, oC_of (c_103 _ _ _), if_b2i]
  by_cases ht : 0 ≤ t ∧ t < 4
  case neg =>
    have e1 : trN g t n = 1 := by omega
    rw [if_neg ht]
    by_cases z : ¬ two s m o ∨ n < 0 ∨ 20 < n
    · exact no1 _ z
    · rw [e1, if_neg z, if_pos (show (1 : Int) ≠ 0 by decide), if_neg (show ¬ (1 : Int) = 0 by decide)]
      exact Ok_some ⟨rfl, fun z => by omega, fun _ _ _ _ => rfl⟩
  rw [if_pos ht]
  by_cases h2 : n < 0
  · rw [if_pos h2]
    exact no1 _ (Or.inr (Or.inl h2))
  by_cases h3 : 20 < n
  · rw [if_neg h2, if_pos h3]
    exact no1 _ (Or.inr (Or.inr h3))
  rw [if_neg h2, if_neg h3, if_neg (show ¬ (¬ two s m o ∨ n < 0 ∨ 20 < n) from fun z => by rcases z with z | z; exact z h1; omega)]
  simp only [↓G_top, ↓K_trs, ↓oC_of (c_104 t ht.1 ht.2), ↓if_b2i]
  generalize trN g t n = W at hx
  rcases hx with ⟨rfl, h⟩ | ⟨rfl, h⟩ | ⟨rfl, h, h4⟩ | ⟨rfl, h, h4, h5⟩ | ⟨rfl, h, h4, h5⟩
  · omega
  · omega
  · rw [if_pos (show (2 : Int) ≠ 0 by decide), if_neg (show ¬ (2 : Int) = 0 by decide), if_pos h4]
    exact Ok_some ⟨rfl, fun z => by omega, fun _ _ _ _ => rfl⟩
  · rw [if_pos (show (3 : Int) ≠ 0 by decide), if_neg (show ¬ (3 : Int) = 0 by decide), if_neg h4]
    have q := (tr t h.1 h.2).2.2.2 h4
    rw [oC_of (c_106_0 t n h.1 h.2 q.2.2.1 q.2.2.2.1), if_b2i, if_neg (show ¬ n ≤ rd g 9 t by omega)]
    exact Ok_some ⟨rfl, fun z => by omega, fun _ _ _ _ => rfl⟩
  · rw [if_neg (show ¬ (0 : Int) ≠ 0 from fun z => z rfl), if_neg h4]
    have q := (tr t h.1 h.2).2.2.2 h4
    rw [oC_of (c_106_0 t n h.1 h.2 q.2.2.1 q.2.2.2.1), if_b2i, if_pos h5]
    refine Ok_mono (c_194_l r hi hN h1 t n h.1 h.2 (by omega) (by omega) n.toNat 0 (by omega) (by omega) (fun j a b => by omega)) ?_
    rintro v g' ⟨a1, a2, a3⟩
    refine ⟨?_, a2, a3⟩
    rw [a1]
    by_cases z : alW (fun i => rd g (4 + t) i) n.toNat 0 = true
    · rw [if_pos z, if_pos z, if_pos rfl]
    · rw [if_neg z, if_neg z, if_neg (by decide)]
def qHeldB (g : Mem) (s : Int → Int) (m o t n w : Int) : Int × Int := if w < 0 ∨ 1 < w then (-1, 1) else if rpW g s m o t n = 0 then (if (rpR g s m o t n).1 = true then (if w = 0 then (rpR g s m o t n).2.2.1 else (rpR g s m o t n).2.2.2, 0) else (-1, 7)) else (-1, rpW g s m o t n)
def qFallen (g : Mem) (s : Int → Int) (m o t n : Int) : Int × Int := if rpW g s m o t n = 0 then (if (rpR g s m o t n).1 = true then (if (rpR g s m o t n).2.1 0 = 0 then (m, 0) else if (rpR g s m o t n).2.1 1 = 0 then (o, 0) else (-1, 6)) else (-1, 7)) else (-1, rpW g s m o t n)
theorem c_170 (tr : TR g) (r : RD g 19 s) (hi : Iv N s) (hN : N < 800000) (m o t n w : Int) : AnC g (qHeldB g s m o t n w) (MI X (d + 5) 170 [.inr (.inr 1), .inl m, .inl o, .inl t, .inl n, .inl w] S0 (ov g)) := by
  rw [e_170]
  unfold qHeldB
  by_cases h1 : w < 0
  · rw [if_pos h1, if_neg (show ¬ (1 : Nat) = 0 by decide), if_pos (Or.inl h1), K_top]
    exact AnC_no (FC_rf g) 1
  by_cases h2 : 1 < w
  · rw [if_neg h1, if_pos h2, if_neg (show ¬ (1 : Nat) = 0 by decide), if_pos (Or.inr h2), K_top]
    exact AnC_no (FC_rf g) 1
  rw [if_neg h1, if_neg h2, if_neg (by omega), K_top]
  refine Ok_bind (c_194 tr r hi hN m o t n) ?_
  rintro v g1 ⟨a1, a2, a3⟩
  by_cases h3 : rpW g s m o t n = 0
  case neg =>
    rw [if_neg h3] at a1
    rw [if_neg h3, a1, if_neg h3, K_top]
    exact AnC_no (FC_FB a3) _
  rw [if_pos h3] at a1
  rw [if_pos h3]
  by_cases h4 : (rpR g s m o t n).1 = true
  case neg =>
    rw [if_neg h4] at a1
    rw [if_neg h4, a1, if_neg (by decide), K_top]
    exact AnC_no (FC_FB a3) _
  rw [if_pos h4] at a1
  obtain ⟨b1, b2, b3⟩ := a2 a1
  rw [if_pos h4, a1, if_pos rfl]
  simp (disch := omega) only [↓K_top, ↓G_top, ↓P_top, ↓G_bou, ↓al_127 _]
  have hw : w = 0 ∨ w = 1 := by omega
  rcases hw with rfl | rfl
  · rw [if_pos rfl, b2]
    exact AnC_tell (FC_FB a3) _
  · rw [if_neg (by decide), b3]
    exact AnC_tell (FC_FB a3) _
theorem c_171 (tr : TR g) (r : RD g 19 s) (hi : Iv N s) (hN : N < 800000) (m o t n : Int) : AnC g (qFallen g s m o t n) (MI X (d + 5) 171 [.inr (.inr 1), .inl m, .inl o, .inl t, .inl n] S0 (ov g)) := by
  rw [e_171]
  unfold qFallen
  rw [K_top]
  refine Ok_bind (c_194 tr r hi hN m o t n) ?_
  rintro v g1 ⟨a1, a2, a3⟩
  by_cases h3 : rpW g s m o t n = 0
  case neg =>
    rw [if_neg h3] at a1
    rw [if_neg h3, a1, if_neg h3, K_top]
    exact AnC_no (FC_FB a3) _
  rw [if_pos h3] at a1
  rw [if_pos h3]
  by_cases h4 : (rpR g s m o t n).1 = true
  case neg =>
    rw [if_neg h4] at a1
    rw [if_neg h4, a1, if_neg (by decide), K_top]
    exact AnC_no (FC_FB a3) _
  rw [if_pos h4] at a1
  obtain ⟨b1, b2, b3⟩ := a2 a1
  have e0 := b1.1
  rw [if_pos h4, a1, if_pos rfl]
  simp (disch := omega) only [↓K_top, ↓G_top, ↓P_top, ↓K_bou, ↓oC_of (c_7 b1), ↓if_b2i]
  by_cases h5 : (rpR g s m o t n).2.1 0 = 0
  · rw [if_pos h5, if_pos (Or.inl h5)]
    simp (disch := omega) only [↓K_top, ↓G_top, ↓P_top, ↓G_bou, ↓al_126 _, e0]
    rw [if_pos h5]
    exact AnC_tell (FC_FB a3) _
  · rw [if_neg h5]
    by_cases h6 : (rpR g s m o t n).2.1 1 = 0
    · rw [if_pos h6, if_pos (Or.inr h6)]
      simp (disch := omega) only [↓K_top, ↓G_top, ↓P_top, ↓G_bou, ↓al_126 _, e0]
      rw [if_neg h5]
      exact AnC_tell (FC_FB a3) _
    · rw [if_neg h6, if_neg (fun z => by rcases z with z | z; exact h5 z; exact h6 z)]
      exact AnC_no (FC_FB a3) _
end
