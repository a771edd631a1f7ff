/-! THE CLASS ACTS, whole -/
/-- what an ACT may write -/
def FD (b : Int) (g g' : Mem) : Prop := ∀ c i, 0 ≤ c → 0 ≤ i → (c < 125 ∨ 133 < c) → c ≠ b + 5 → c ≠ b + 7 → c ≠ b + 10 → (c ≠ b ∨ i < 14 ∨ 18 < i) → rd g' c i = rd g c i
theorem FD_tr {b : Int} {g g1 g2 : Mem} (h1 : FD b g g1) (h2 : FD b g1 g2) : FD b g g2 := fun c i a e f k l m n => (h2 c i a e f k l m n).trans (h1 c i a e f k l m n)
theorem FD_FB {b : Int} {g g1 : Mem} (h1 : FB g g1) : FD b g g1 := fun c i a e f k l m n => h1 c i a f
theorem RB_wrd {g : Mem} {B : Int → Int} (r : RB g B) {c : Int} (i x : Int) (h0 : 0 ≤ c) (h : c < 125) : RB (wr g c i x) B := by
  obtain ⟨r0, r1, r2, r3, r4, r5, r6, r7, r8, r9, r10, r11, r12, r13, r14, r15, r16, r17⟩ := r
  unfold RB
  simp (disch := omega) only [rd_wr_ne, *, and_self]
theorem RB_pB {g : Mem} {B : Int → Int} (r : RB g B) {b : Int} (m h L v : Int) (h0 : 0 ≤ b) (h1 : b < 118) : RB (pB g b m h L v) B := by
  unfold pB
  split
  · exact RB_wrd r _ _ (by omega) (by omega)
  · exact RB_wrd (RB_wrd r _ _ (by omega) (by omega)) _ _ (by omega) (by omega)
section
variable {X : Xs} {d : Nat} {g : Mem} {s : Int → Int} {b N : Int}
theorem c_2 (hb : isD b) (r : RD g b s) (hi : Iv N s) (hd : s 6 ≠ -1) : Ok (fun _ g' => RB g' (boN s) ∧ FB g g') (MI X (d + 2) 2 [.inr (.inr 125), .inr (.inr b)] S0 (ov g)) := by
  have hb2 := isD_rng hb
  have hr := r
  have hi' := hi
  obtain ⟨r0, r1, r2, rt, rm, rw', r6, r7⟩ := r
  obtain ⟨r7, r8, r9, r10⟩ := r7 hd
  obtain ⟨i0, i1, i2, i3, j2, j3, j4, j5, j6, j7, j8, j9, it, im, iw, ia, ih, i6, iu⟩ := hi
  obtain ⟨u0, u1, u2, u3, -⟩ := iu hd
  clear it im iw ia ih iu j2 j3 j4 j5 j6 j7 j8 j9 rt rw'
  rw [e_2]
  simp (disch := omega) only [↓K_bou, ↓G_bou, ↓P_bou, ↓al_126 _, ↓as_126, ↓al_127 _, ↓as_127, ↓al_128 _, ↓as_128, ↓al_129 _, ↓as_129, ↓al_130 _, ↓as_130, ↓al_131 _, ↓as_131, ↓al_132 _, ↓as_132, ↓al_133 _, ↓as_133, ↓K_daw hb, ↓G_daw hb, ↓P_daw hb, ↓al_D1 _ hb, ↓as_D1 hb, ↓al_D2 _ hb, ↓as_D2 hb, ↓al_D3 _ hb, ↓as_D3 hb, ↓al_D4 _ hb, ↓as_D4 hb, ↓al_D5 _ hb, ↓as_D5 hb, ↓al_D6 _ hb, ↓as_D6 hb, ↓al_D7 _ hb, ↓as_D7 hb, ↓al_D8 _ hb, ↓as_D8 hb, ↓al_D9 _ hb, ↓as_D9 hb, ↓al_D10 _ hb, ↓as_D10 hb, ↓al_D11 hb, ↓as_D11 hb, ↓al_D12 hb, ↓as_D12 hb, r6, r7]
  refine Ok_bind (c_3 hb hr hi' (s 6) (s 7) u0 u1 u2 u3) ?_
  rintro v g2 ⟨q1, q2⟩
  obtain ⟨-, -, -, -, rm2, -, r62, r72⟩ := RD_FB hb hr q2
  obtain ⟨r72, r82, r92, r102⟩ := r72 hd
  obtain ⟨a0, a1, a2, a3, a4, a5, a6, a7, a8, a9, a10, a11, a12⟩ := q1
  simp (disch := omega) only [↓K_bou, ↓G_bou, ↓P_bou, ↓al_126 _, ↓as_126, ↓al_127 _, ↓as_127, ↓al_128 _, ↓as_128, ↓al_129 _, ↓as_129, ↓al_130 _, ↓as_130, ↓al_131 _, ↓as_131, ↓al_132 _, ↓as_132, ↓al_133 _, ↓as_133, ↓K_daw hb, ↓G_daw hb, ↓P_daw hb, ↓al_D1 _ hb, ↓as_D1 hb, ↓al_D2 _ hb, ↓as_D2 hb, ↓al_D3 _ hb, ↓as_D3 hb, ↓al_D4 _ hb, ↓as_D4 hb, ↓al_D5 _ hb, ↓as_D5 hb, ↓al_D6 _ hb, ↓as_D6 hb, ↓al_D7 _ hb, ↓as_D7 hb, ↓al_D8 _ hb, ↓as_D8 hb, ↓al_D9 _ hb, ↓as_D9 hb, ↓al_D10 _ hb, ↓as_D10 hb, ↓al_D11 hb, ↓as_D11 hb, ↓al_D12 hb, ↓as_D12 hb, rd_wr_ne, rm2, r62, r72, r82, r92, r102]
  refine Ok_some ⟨?_, ?_⟩
  · unfold RB
    simp (disch := omega) only [rd_wr_eq, rd_wr_ne, rd_wr_ix, a0, a1, a2, a3, a4, a5, a6, a7, a8, a9, a10, a11, a12, true_and, and_true]
    simp only [bo_all, and_self]
  · intro c j hc hcc
    simp (disch := omega) only [rd_wr_ne]
    exact q2 c j hc hcc
theorem c_43 (hb : isD b) : MI X d 43 [.inr (.inr b)] S0 (ov g) = some (0, S0, ov (wr (wr (wr (wr (wr g b 14 (-1)) b 15 (-1)) b 16 0) b 17 0) b 18 0)) := by
  rw [e_43]
  simp only [↓K_daw hb, ↓G_daw hb, ↓P_daw hb, ↓al_D1 _ hb, ↓as_D1 hb, ↓al_D2 _ hb, ↓as_D2 hb, ↓al_D3 _ hb, ↓as_D3 hb, ↓al_D4 _ hb, ↓as_D4 hb, ↓al_D5 _ hb, ↓as_D5 hb, ↓al_D6 _ hb, ↓as_D6 hb, ↓al_D7 _ hb, ↓as_D7 hb, ↓al_D8 _ hb, ↓as_D8 hb, ↓al_D9 _ hb, ↓as_D9 hb, ↓al_D10 _ hb, ↓as_D10 hb, ↓al_D11 hb, ↓as_D11 hb, ↓al_D12 hb, ↓as_D12 hb]
theorem c_36 (hb : isD b) {v f e x : Int} (hv : v = 0 ∨ v = 1) (e1 : rd g b 14 = f) (e2 : rd g b 15 = e) (f0 : 0 ≤ f) (f1 : f < 6) (h0 : 0 ≤ e) (h1 : e < 6) (hx : rd g (b + 10) (if v = 0 then f * 6 + e else e * 6 + f) = x) (x0 : 0 ≤ x) (x1 : x < 1000000) : MI X d 36 [.inr (.inr b), .inl v] S0 (ov g) = some (0, S0, ov (wr g (b + 10) (if v = 0 then f * 6 + e else e * 6 + f) (x + 1))) := by
  rw [e_36]
  rcases hv with rfl | rfl
  · simp only [↓reduceIte] at hx
    simp (disch := omega) only [↓K_daw hb, ↓G_daw hb, ↓P_daw hb, ↓al_D1 _ hb, ↓as_D1 hb, ↓al_D2 _ hb, ↓as_D2 hb, ↓al_D3 _ hb, ↓as_D3 hb, ↓al_D4 _ hb, ↓as_D4 hb, ↓al_D5 _ hb, ↓as_D5 hb, ↓al_D6 _ hb, ↓as_D6 hb, ↓al_D7 _ hb, ↓as_D7 hb, ↓al_D8 _ hb, ↓as_D8 hb, ↓al_D9 _ hb, ↓as_D9 hb, ↓al_D10 _ hb, ↓as_D10 hb, ↓al_D11 hb, ↓as_D11 hb, ↓al_D12 hb, ↓as_D12 hb, ↓if_pos, ↓if_neg, e1, e2, w32_id, hx]
  · simp only [Int.reduceEq, ↓reduceIte] at hx
    simp (disch := omega) only [↓K_daw hb, ↓G_daw hb, ↓P_daw hb, ↓al_D1 _ hb, ↓as_D1 hb, ↓al_D2 _ hb, ↓as_D2 hb, ↓al_D3 _ hb, ↓as_D3 hb, ↓al_D4 _ hb, ↓as_D4 hb, ↓al_D5 _ hb, ↓as_D5 hb, ↓al_D6 _ hb, ↓as_D6 hb, ↓al_D7 _ hb, ↓as_D7 hb, ↓al_D8 _ hb, ↓as_D8 hb, ↓al_D9 _ hb, ↓as_D9 hb, ↓al_D10 _ hb, ↓as_D10 hb, ↓al_D11 hb, ↓as_D11 hb, ↓al_D12 hb, ↓as_D12 hb, ↓if_pos, ↓if_neg, e1, e2, w32_id, hx]
theorem RD_y (hb : isD b) (r : RD g b s) (hi : Iv N s) (hd : s 6 ≠ -1) {y B' : Int → Int} (R : acR s y B') {g' : Mem} (q : g' = wr (wr (wr (pB (pB g b (s 6) (mn s (s 6) 3) (B' 0) (th s (mn s (s 6) 3) 2 - B' 2)) b (s 7) (mn s (s 7) 3) (B' 1) (th s (mn s (s 7) 3) 2 - B' 3)) b 16 (B' 4)) b 17 (B' 5)) b 18 (B' 6)) : RD g' b y := by
  have hb2 := isD_rng hb
  obtain ⟨r0, r1, r2, rt, rm, rw', r6, r7⟩ := r
  obtain ⟨r7, r8, r9, r10⟩ := r7 hd
  obtain ⟨i0, i1, i2, i3, j2, j3, j4, j5, j6, j7, j8, j9, it, im, iw, ia, ih, i6, iu⟩ := hi
  obtain ⟨u0, u1, u2, u3, u4, -⟩ := iu hd
  have hh := ih (s 6) (s 7) u0 u1 u2 u3 u4
  obtain ⟨-, -, -, -, -, -, x1, x2⟩ := im (s 6) u0 u1
  obtain ⟨-, -, -, -, -, -, y1, y2⟩ := im (s 7) u2 u3
  clear it im iw ia ih iu j2 j3 j4 j5 j6 j7 j8 j9
  obtain ⟨Rk, R8, R9, R10, Rm, Rw, Rt⟩ := R
  have nb : ∀ c j, 0 ≤ c → c ≠ b → c ≠ b + 5 → c ≠ b + 7 → rd g' c j = rd g c j := by
    intro c j a1 a2 a3 a4
    rw [q]
    simp (disch := omega) only [rd_wr_ne, pB_ne]
  have nk : ∀ j, 0 ≤ j → j < 16 → rd g' b j = rd g b j := by
    intro j a1 a2
    rw [q]
    simp (disch := omega) only [rd_wr_ix, pB_ne]
  have n7 : ∀ j, 0 ≤ j → rd g' (b + 7) j = if j = s 7 then B' 1 else if j = s 6 then B' 0 else rd g (b + 7) j := by
    intro j a1
    rw [q]
    simp (disch := omega) only [rd_wr_ne]
    rw [pB_7 _ _ _ _ (by omega) u2 a1, pB_7 _ _ _ _ (by omega) u0 a1]
  have n5 : ∀ j, 0 ≤ j → rd g' (b + 5) j = if j = mn s (s 7) 3 then th s (mn s (s 7) 3) 2 - B' 3 else if j = mn s (s 6) 3 then th s (mn s (s 6) 3) 2 - B' 2 else rd g (b + 5) j := by
    intro j a1
    rw [q]
    simp (disch := omega) only [rd_wr_ne]
    rw [pB_5 _ _ _ _ (by omega) y1 a1, pB_5 _ _ _ _ (by omega) x1 a1]
  have c16 : rd g' b 16 = B' 4 := by rw [q]; simp (disch := omega) only [rd_wr_ix, rd_wr_eq]
  have c17 : rd g' b 17 = B' 5 := by rw [q]; simp (disch := omega) only [rd_wr_ix, rd_wr_eq]
  have c18 : rd g' b 18 = B' 6 := by rw [q]; simp (disch := omega) only [rd_wr_eq]
  clear q
  have k0 := Rk 0 (by omega) (by omega)
  have k1 := Rk 1 (by omega) (by omega)
  have k6 := Rk 6 (by omega) (by omega)
  have k7 := Rk 7 (by omega) (by omega)
  unfold RD
  rw [nk 0 (by omega) (by omega), nk 1 (by omega) (by omega), nk 14 (by omega) (by omega), nk 15 (by omega) (by omega), c16, c17, c18, k0, k1, k6, k7, R8, R9, R10]
  refine ⟨r0, r1, fun i a c => ?_, fun t a c => ?_, fun m a c => ?_, fun m o a c e f => ?_, r6, fun _ => ⟨r7, rfl, rfl, rfl⟩⟩
  · rw [nb _ _ (by omega) (by omega) (by omega) (by omega), r2 i a c, Rk _ (by omega) (by omega)]
  · obtain ⟨w0, w1, w2, w3⟩ := Rt t a c
    obtain ⟨v0, v1, v2, v3⟩ := rt t a c
    rw [nb _ _ (by omega) (by omega) (by omega) (by omega), nb _ _ (by omega) (by omega) (by omega) (by omega), nb _ _ (by omega) (by omega) (by omega) (by omega), n5 t a, w0, w1, w2, w3]
    refine ⟨v0, v1, v2, ?_⟩
    rw [v3]
    clear nb nk n7 n5 Rt Rm Rw Rk rt rm rw' w0 w1 w2 w3 v0 v1 v2 v3
    by_cases e1 : t = mn s (s 6) 3
    · rw [← e1] at hh ⊢
      rw [if_neg (by omega), if_pos rfl, if_pos rfl]
    · rw [if_neg e1, if_neg e1]
      by_cases e2 : t = mn s (s 7) 3
      · rw [← e2, if_pos rfl]
      · rw [if_neg e2, if_neg e2]
  · obtain ⟨w0, w1, w2, w3⟩ := Rm m a c
    obtain ⟨v0, v1, v2, v3⟩ := rm m a c
    rw [nb _ _ (by omega) (by omega) (by omega) (by omega), n7 m a, nb _ _ (by omega) (by omega) (by omega) (by omega), nb _ _ (by omega) (by omega) (by omega) (by omega), w0, w1, w2, w3]
    refine ⟨v0, ?_, v2, v3⟩
    rw [v1]
    by_cases e1 : m = s 6
    · rw [if_neg (by omega), if_pos e1, if_pos e1]
    · rw [if_neg e1, if_neg e1]
  · rw [nb _ _ (by omega) (by omega) (by omega) (by omega), rw' m o a c e f, Rw m o a c e f]
/-- a DUEL that is won is over -/
theorem RD_en (hb : isD b) {y : Int → Int} (r : RD g b y) (y0 : y 0 ≤ 8) (y1 : y 1 ≤ 6) {w o : Int} (w0 : 0 ≤ w) (w1 : w < y 1) (o0 : 0 ≤ o) (o1 : o < y 1) : RD (wr (wr (wr (wr (wr (wr g (b + 10) (w * 6 + o) (mn y w (4 + o) + 1)) b 14 (-1)) b 15 (-1)) b 16 0) b 17 0) b 18 0) b (enA y w o) := by
  have hb2 := isD_rng hb
  obtain ⟨r0, r1, r2, rt, rm, rw', r6, r7⟩ := r
  obtain ⟨g0, g1, g2, g3, g4, g5⟩ := enA_get y (w := w) (o := o) w0 o0 (by omega)
  have c0 := g0 0 (by omega) (by omega)
  have c1 := g0 1 (by omega) (by omega)
  unfold RD
  rw [c0, c1, g1]
  refine ⟨?_, ?_, fun i a c => ?_, fun t a c => ?_, fun m a c => ?_, fun m p a c e f => ?_, ?_, fun x => absurd rfl x⟩
  · simp (disch := omega) only [rd_wr_ne, rd_wr_ix, r0]
  · simp (disch := omega) only [rd_wr_ne, rd_wr_ix, r1]
  · simp (disch := omega) only [rd_wr_ne]
    rw [r2 i a c, g0 _ (by omega) (by omega)]
  · simp (disch := omega) only [rd_wr_ne]
    rw [g4 t 0 a (by omega) (by omega) (by omega), g4 t 1 a (by omega) (by omega) (by omega), g4 t 2 a (by omega) (by omega) (by omega), g4 t 3 a (by omega) (by omega) (by omega)]
    exact rt t a c
  · simp (disch := omega) only [rd_wr_ne]
    rw [g3 m 0 a (by omega) (by omega), g3 m 1 a (by omega) (by omega), g3 m 2 a (by omega) (by omega), g3 m 3 a (by omega) (by omega)]
    exact rm m a c
  · simp (disch := omega) only [rd_wr_ne]
    rw [rd_wr_if _ _ _ (by omega) (by omega), g5 m p a e (by omega)]
    by_cases z : m = w ∧ p = o
    · rw [if_pos z, if_pos (by omega)]
    · rw [if_neg z, if_neg (by omega)]
      exact rw' m p a c e f
  · simp (disch := omega) only [rd_wr_ix, rd_wr_eq]
end
