/-! LIVING: one STEP, the class. Counts: 1 chance, 2 ran, 3 steps, 4 missed, 5 acted, 6 fell, 7 taken, 8 cut -/
def RL (g : Mem) (L : Int) (c : Int → Int) : Prop := ∀ j, 1 ≤ j → j ≤ 8 → rd g L j = c j
def IL (M : Int) (c : Int → Int) : Prop := 0 ≤ c 1 ∧ c 1 < 65536 ∧ 0 ≤ c 4 ∧ c 4 ≤ M ∧ 0 ≤ c 5 ∧ c 5 ≤ M ∧ 0 ≤ c 6 ∧ c 6 ≤ M ∧ 0 ≤ c 7 ∧ c 7 ≤ 60 * M
/-- nothing but the bout, what an ACT changes of the DAWN at b, and L is other -/
def FW (b L : Int) (g g' : Mem) : Prop := ∀ c i, 0 ≤ c → 0 ≤ i → (c < 125 ∨ 133 < c) → c ≠ b + 5 → c ≠ b + 7 → c ≠ b + 10 → (c ≠ b ∨ i < 14 ∨ 18 < i) → c ≠ L → rd g' c i = rd g c i
theorem FW_rf (b L : Int) (g : Mem) : FW b L g g := fun _ _ _ _ _ _ _ _ _ _ => rfl
theorem FW_tr {b L : Int} {g g1 g2 : Mem} (h1 : FW b L g g1) (h2 : FW b L g1 g2) : FW b L g g2 := fun c i a e f k l m n o => (h2 c i a e f k l m n o).trans (h1 c i a e f k l m n o)
theorem FW_FD {b L : Int} {g g1 : Mem} (h : FD b g g1) : FW b L g g1 := fun c i a e f k l m n _ => h c i a e f k l m n
theorem FW_L {b L : Int} (g : Mem) (j x : Int) (h : 0 ≤ L) : FW b L g (wr g L j x) := fun c i a _ _ _ _ _ _ o => rd_wr_ne _ _ _ _ h a o
theorem FW_b {b L : Int} {g : Mem} {j x : Int} (hb : isD b) (hj : 14 ≤ j ∧ j ≤ 18) : FW b L g (wr g b j x) := fun c i a e f k l m n o => by
  have := isD_rng hb
  by_cases z : c = b
  · subst z; exact rd_wr_ix _ _ (by omega) e (by omega)
  · exact rd_wr_ne _ _ _ _ (by omega) a z
theorem isL_rng {L : Int} (h : isL L) : 141 ≤ L ∧ L ≤ 142 := by unfold isL at h; omega
theorem RL_wr {g : Mem} {L : Int} {c : Int → Int} (r : RL g L c) {j : Int} (x : Int) (h : 0 ≤ j) : RL (wr g L j x) L (us c j x) := fun i a b => by
  rw [rd_wr_if g L x h (by omega)]
  by_cases e : i = j
  · rw [if_pos e, e, us_eq]
  · rw [if_neg e, us_ne _ _ e]; exact r i a b
theorem RL_fr {g g' : Mem} {L : Int} {c : Int → Int} (r : RL g L c) (f : ∀ i, 1 ≤ i → rd g' L i = rd g L i) : RL g' L c := fun i a b => by rw [f i a]; exact r i a b
theorem RD_L {g : Mem} {b L : Int} {s : Int → Int} (hb : isD b) (hl : isL L) (r : RD g b s) (j x : Int) : RD (wr g L j x) b s := by
  have := isD_rng hb
  have := isL_rng hl
  exact RD_fr r (fun c i h1 h2 => rd_wr_ne _ _ _ _ (by omega) (by omega) (by omega))
def drN (c : Int → Int) : Int := (c 1 * 3137 + 11353) % 65536
/-- an ACT that YEARS order -/
abbrev laP (s : Int → Int) (a : Int) : Prop := s 6 ≠ -1 ∧ caB (boN s) a
def laS (s : Int → Int) (a : Int) : Int → Int := if laP s a then acS s a else s
def laC (s c : Int → Int) (a : Int) : Int → Int := if laP s a then us (us (us c 5 (c 5 + 1)) 7 (c 7 + tkB (boN s) a)) 6 (c 6 + (if acS s a 6 = -1 then 1 else 0)) else us c 4 (c 4 + 1)
abbrev meP (s : Int → Int) (m o : Int) : Prop := m ≠ o ∧ ¬ (mn s m 1 = 0 ∨ mn s o 1 = 0)
abbrev cuP (s : Int → Int) (m : Int) : Prop := mn s m 1 < mn s m 2
def doS (s c : Int → Int) (W A O Z : Int) : Int → Int := if W = 12 then (if meP s A O then meS s A O else s) else if W = 17 then (if cuP s A then cuS s A Z else s) else if W = 18 then laS s (drN c / 8 % 4) else laS s (W - 13)
def doC (s c : Int → Int) (W A O Z : Int) : Int → Int := if W = 12 then (if meP s A O then c else us c 4 (c 4 + 1)) else if W = 17 then (if cuP s A then c else us c 4 (c 4 + 1)) else if W = 18 then laC s (us c 1 (drN c)) (drN c / 8 % 4) else laC s c (W - 13)
/-- what a STEP without a block must be -/
def okS (s : Int → Int) (W A O Z : Int) : Prop := 12 ≤ W ∧ W ≤ 18 ∧ (W = 12 → 0 ≤ A ∧ A < s 1 ∧ 0 ≤ O ∧ O < s 1) ∧ (W = 17 → 0 ≤ A ∧ A < s 1 ∧ 1 ≤ Z ∧ Z ≤ 60)
section
variable {X : Xs} {d : Nat} {g : Mem} {s c : Int → Int} {b L N M : Int}
theorem tk_rng (hi : Iv N s) (hN : N < 900000) (hd : s 6 ≠ -1) (a : Int) : 0 ≤ tkB (boN s) a ∧ tkB (boN s) a ≤ 60 := by
  have h := IB_N hi hN hd
  generalize boN s = B at h
  unfold IB at h
  have hh : 0 ≤ huB B (B 6 % 2) := by unfold huB; split <;> omega
  have hm : B 6 % 2 = 0 ∨ B 6 % 2 = 1 := by omega
  unfold tkB am_min
  split
  · rcases hm with e | e <;> rw [e] at hh ⊢ <;> simp only [Int.sub_zero, Int.reduceSub] <;> split <;> omega
  · omega
theorem IL_la (hi : Iv N s) (hN : N < 900000) (il : IL M c) (a : Int) : IL (M + 1) (laC s c a) := by
  obtain ⟨h1, h2, h3, h4, h5, h6, h7, h8, h9, h10⟩ := il
  unfold laC IL
  by_cases h : laP s a
  · have t := tk_rng hi hN h.1 a
    rw [if_pos h]
    simp (disch := omega) only [us_eq, us_ne]
    split <;> omega
  · rw [if_neg h]
    simp (disch := omega) only [us_eq, us_ne]
    omega
theorem IL_do (hi : Iv N s) (hN : N < 900000) (il : IL M c) (W A O Z : Int) : IL (M + 1) (doC s c W A O Z) := by
  have up : IL (M + 1) c := by unfold IL at *; omega
  have mi : IL (M + 1) (us c 4 (c 4 + 1)) := by
    unfold IL at *
    simp (disch := omega) only [us_eq, us_ne]
    omega
  have dr : IL M (us c 1 (drN c)) := by
    unfold IL at *
    simp (disch := omega) only [us_eq, us_ne]
    unfold drN
    omega
  unfold doC
  split
  · split
    · exact up
    · exact mi
  · split
    · split
      · exact up
      · exact mi
    · split
      · exact IL_la hi hN dr _
      · exact IL_la hi hN il _
theorem la_3 (a : Int) : laC s c a 3 = c 3 ∧ laC s c a 8 = c 8 ∧ laC s c a 2 = c 2 := by
  unfold laC
  split <;> simp (disch := omega) only [us_ne, and_self]
theorem do_3 (W A O Z : Int) : doC s c W A O Z 3 = c 3 ∧ doC s c W A O Z 8 = c 8 ∧ doC s c W A O Z 2 = c 2 := by
  unfold doC
  split
  · split <;> simp (disch := omega) only [us_ne, and_self]
  · split
    · split <;> simp (disch := omega) only [us_ne, and_self]
    · split
      · have q := la_3 (s := s) (c := us c 1 (drN c)) (drN c / 8 % 4)
        simp (disch := omega) only [us_ne] at q
        exact q
      · exact la_3 _
theorem Iv_la (hi : Iv N s) (hN : N < 900000) (a : Int) (ha : a = 0 ∨ a = 1 ∨ a = 2 ∨ a = 3) : Iv (N + 1) (laS s a) := by
  unfold laS
  split
  · next h => exact Iv_acS hi hN h.1 a ha h.2
  · exact Iv_le hi (by omega)
theorem Iv_do (hi : Iv N s) (hN : N < 900000) {W A O Z : Int} (hw : okS s W A O Z) : Iv (N + 1) (doS s c W A O Z) := by
  obtain ⟨w1, w2, w3, w4⟩ := hw
  have hN0 : 0 ≤ N := by have := (Iv_aw hi); omega
  unfold doS
  split
  · next e =>
    obtain ⟨a1, a2, a3, a4⟩ := w3 e
    split
    · next h => exact Iv_le (Iv_me hi hN0 ⟨a1, a2, a3, a4, h.1⟩ h.2) (by omega)
    · exact Iv_le hi (by omega)
  · split
    · next e =>
      obtain ⟨a1, a2, a3, a4⟩ := w4 e
      split
      · next h =>
        obtain ⟨i0, i1, i2, i3, -, -, -, -, -, -, -, -, -, im, -⟩ := id hi
        have q := im A a1 a2
        exact Iv_le (Iv_um hi _ a1 a2 (Or.inr (Or.inl ⟨rfl, by unfold am_min; split <;> omega, by unfold am_min; split <;> omega⟩))) (by omega)
      · exact Iv_le hi (by omega)
    · split
      · exact Iv_la hi hN _ (by omega)
      · exact Iv_la hi hN _ (by omega)
theorem la_k (hi : Iv N s) (hN : N < 900000) (a : Int) (ha : a = 0 ∨ a = 1 ∨ a = 2 ∨ a = 3) : laS s a 0 = s 0 ∧ laS s a 1 = s 1 := by
  unfold laS
  split
  · next h =>
    have R := acR_of hi h.1 a ha
    obtain ⟨i0, i1, i2, i3, j2, j3, j4, j5, j6, j7, j8, j9, it, im, iw, ia, ih, i6, iu⟩ := id hi
    obtain ⟨u0, u1, u2, u3, -⟩ := iu h.1
    have hm : s 10 % 2 = 0 ∨ s 10 % 2 = 1 := by omega
    have hw : 0 ≤ s (6 + s 10 % 2) ∧ 0 ≤ s (7 - s 10 % 2) ∧ s (7 - s 10 % 2) < 6 := by
      rcases hm with e | e <;> rw [e] <;> simp only [Int.reduceAdd, Int.reduceSub] <;> omega
    unfold acS fin
    generalize ac2 s a (s 10 % 2) (s (6 + s 10 % 2)) (s (7 - s 10 % 2)) = y at R ⊢
    obtain ⟨g0, -⟩ := enA_get y (w := s (6 + s 10 % 2)) (o := s (7 - s 10 % 2)) hw.1 hw.2.1 hw.2.2
    have k0 := R.1 0 (by omega) (by omega)
    have k1 := R.1 1 (by omega) (by omega)
    split
    · exact ⟨(g0 0 (by omega) (by omega)).trans k0, (g0 1 (by omega) (by omega)).trans k1⟩
    · exact ⟨k0, k1⟩
  · exact ⟨rfl, rfl⟩
theorem do_k (hi : Iv N s) (hN : N < 900000) {W A O Z : Int} (hw : okS s W A O Z) : doS s c W A O Z 0 = s 0 ∧ doS s c W A O Z 1 = s 1 := by
  obtain ⟨w1, w2, w3, w4⟩ := hw
  unfold doS
  split
  · split
    · have f := (me_all s A O).2.2.2.2.2
      exact ⟨f 0 (by omega), f 1 (by omega)⟩
    · exact ⟨rfl, rfl⟩
  · split
    · next e =>
      obtain ⟨a1, a2, a3, a4⟩ := w4 e
      split
      · unfold cuS
        exact ⟨um_k _ _ a1 (by omega) (by omega), um_k _ _ a1 (by omega) (by omega)⟩
      · exact ⟨rfl, rfl⟩
    · split
      · exact la_k hi hN _ (by omega)
      · exact la_k hi hN _ (by omega)
theorem c_75 (hl : isL L) (r : RL g L c) (h0 : 0 ≤ c 1) (h1 : c 1 < 65536) : MI X d 75 [.inr (.inr L)] S0 (ov g) = some (drN c / 8 % 4, S0, ov (wr g L 1 (drN c))) := by
  have e1 : rd g L 1 = c 1 := r 1 (by omega) (by omega)
  have q : am_rem (c 1 * 3137 + 11353) 65536 = drN c := Int.tmod_eq_emod_of_nonneg (by omega)
  have p0 : 0 ≤ drN c ∧ drN c < 65536 := by unfold drN; omega
  have q2 : am_div (drN c) 8 = drN c / 8 := by
    unfold am_div
    rw [Int.tdiv_eq_ediv_of_nonneg p0.1, w32_id (by omega) (by omega)]
  have q3 : am_rem (drN c / 8) 4 = drN c / 8 % 4 := Int.tmod_eq_emod_of_nonneg (by omega)
  rw [e_75]
  simp (disch := omega) only [↓K_liv hl, ↓G_liv hl, ↓P_liv hl, e1, w32_id, q, rd_wr_eq, q2, q3, ↓if_neg]
theorem c_74 (hl : isL L) {B : Int → Int} (rb : RB g B) (r : RL g L c) (il : IL M c) (hM : M ≤ 300) {tk : Int} (ht : rd g 125 12 = tk) (t0 : 0 ≤ tk) (t1 : tk ≤ 60) : MI X (d + 1) 74 [.inr (.inr L), .inl 1] S0 (ov g) = some (0, S0, ov (wr (wr (wr g L 5 (c 5 + 1)) L 7 (c 7 + tk)) L 6 (c 6 + (if B 0 = 0 ∨ B 1 = 0 then 1 else 0)))) := by
  have hl2 := isL_rng hl
  obtain ⟨h1, h2, h3, h4, h5, h6, h7, h8, h9, h10⟩ := il
  have e5 : rd g L 5 = c 5 := r 5 (by omega) (by omega)
  have e6 : rd g L 6 = c 6 := r 6 (by omega) (by omega)
  have e7 : rd g L 7 = c 7 := r 7 (by omega) (by omega)
  have rb2 : RB (wr (wr g L 5 (c 5 + 1)) L 7 (c 7 + tk)) B := by
    unfold RB at *
    simp (disch := omega) only [rd_wr_ne]
    exact rb
  rw [e_74, if_neg (by decide)]
  simp (disch := omega) only [↓K_liv hl, ↓G_liv hl, ↓P_liv hl, ↓G_bou, ↓K_bou, e5, e6, e7, ht, rd_wr_ix, rd_wr_ne, w32_id, ↓oC_of (c_7 rb2), ↓if_b2i]
  by_cases h : B 0 = 0 ∨ B 1 = 0
  · rw [if_pos h, if_pos h]
  · rw [if_neg h, if_neg h]
/-- an ACT that YEARS order, the class -/
theorem c_la (hb : isD b) (hl : isL L) (rd' : RD g b s) (hi : Iv N s) (hN : N < 800000) (r : RL g L c) (il : IL M c) (hM : M ≤ 300) (a : Int) (ha : a = 0 ∨ a = 1 ∨ a = 2 ∨ a = 3) {P : Int → Mem → Prop} (hP : ∀ g', RD g' b (laS s a) → RL g' L (laC s c a) → FW b L g g' → P 0 g') : Ok P (oC (MI X (d + 4) 4 [.inr (.inr 125), .inr (.inr b), .inl a] S0 (ov g)) fun r5 S5 m5 => if kd S5 L = 4 then (oC (MI X (d + 4) 74 [.inr (.inr L), .inl r5] S5 m5) fun r6 S6 m6 => oK (getf S6 m6 4 L 4) none fun x7 => if r5 = 0 then oK (putf S6 m6 4 L 4 (w32 (x7 + 1))) none fun h8 => some (0, S6, h8) else oK (putf S6 m6 4 L 4 (w32 (x7 + 0))) none fun h9 => some (0, S6, h9)) else none) := by
  have hl2 := isL_rng hl
  have hb2 := isD_rng hb
  have il' := id il
  obtain ⟨h1, h2, h3, h4, h5, h6, h7, h8, h9, h10⟩ := il
  have no : ∀ g1, RD g1 b s → FW b L g g1 → (∀ i, 1 ≤ i → rd g1 L i = rd g L i) → ¬ laP s a → Ok P (if kd S0 L = 4 then (oC (MI X (d + 4) 74 [.inr (.inr L), .inl 0] S0 (ov g1)) fun r6 S6 m6 => oK (getf S6 m6 4 L 4) none fun x7 => if (0 : Int) = 0 then oK (putf S6 m6 4 L 4 (w32 (x7 + 1))) none fun h8 => some (0, S6, h8) else oK (putf S6 m6 4 L 4 (w32 (x7 + 0))) none fun h9 => some (0, S6, h9)) else none) := fun g1 q1 q2 q3 q4 => by
    have e74 : MI X (d + 4) 74 [.inr (.inr L), .inl 0] S0 (ov g1) = some (0, S0, ov g1) := by rw [e_74, if_pos rfl]
    have r1 : RL g1 L c := RL_fr r q3
    have e4 : rd g1 L 4 = c 4 := r1 4 (by omega) (by omega)
    simp (disch := omega) only [↓K_liv hl, ↓G_liv hl, ↓P_liv hl, ↓oC_of e74, e4, w32_id, ↓reduceIte]
    refine Ok_some (hP _ ?_ ?_ (FW_tr q2 (FW_L _ _ _ (by omega))))
    · unfold laS; rw [if_neg q4]; exact RD_L hb hl q1 _ _
    · unfold laC; rw [if_neg q4]; exact RL_wr r1 _ (by omega)
  by_cases hd : s 6 = -1
  · have e4 : MI X (d + 4) 4 [.inr (.inr 125), .inr (.inr b), .inl a] S0 (ov g) = some (0, S0, ov g) := by
      rw [e_4]
      simp only [↓K_daw hb, ↓oC_of (c_40 hb rd'), ↓if_b2i]
      rw [if_neg (fun z => z hd)]
    rw [oC_of e4]
    exact no g rd' (FW_rf _ _ _) (fun _ _ => rfl) (fun z => z.1 hd)
  obtain ⟨v, g1, e, p1, p2, p3, p4⟩ := c_4 (X := X) (d := d + 1) hb rd' hi (by omega) hd a ha
  rw [oC_of e, p1]
  have fL : ∀ i, 1 ≤ i → rd g1 L i = rd g L i := fun i hi1 => p4 L i (by omega) (by omega) (by omega) (by omega) (by omega) (by omega) (by omega)
  by_cases hc : caB (boN s) a
  case neg =>
    rw [show b2i (caB (boN s) a) = 0 from if_neg hc]
    exact no g1 (p3 hc) (FW_FD p4) fL (fun z => hc z.2)
  rw [show b2i (caB (boN s) a) = 1 from if_pos hc]
  obtain ⟨q1, q2, q3⟩ := p2 hc
  have t := tk_rng hi (by omega) hd a
  have r1 : RL g1 L c := RL_fr r fL
  obtain ⟨l6, l7, lo, ln⟩ := acS_life hi (by omega) hd a ha hc
  have hov : (if plB (boN s) a 0 = 0 ∨ plB (boN s) a 1 = 0 then (1 : Int) else 0) = (if acS s a 6 = -1 then 1 else 0) := by
    by_cases z : plB (boN s) a 0 = 0 ∨ plB (boN s) a 1 = 0
    · rw [if_pos z, if_pos (lo z)]
    · have n6 := (ln z).2.1
      rw [if_neg z, if_neg (by rw [n6]; exact hd)]
  have e74 := c_74 (X := X) (d := d + 3) hl q2 r1 il' hM q3 t.1 t.2
  rw [hov] at e74
  have r2 : RL (wr (wr (wr g1 L 5 (c 5 + 1)) L 7 (c 7 + tkB (boN s) a)) L 6 (c 6 + (if acS s a 6 = -1 then 1 else 0))) L (laC s c a) := by
    have := RL_wr (RL_wr (RL_wr r1 (j := 5) (c 5 + 1) (by omega)) (j := 7) (c 7 + tkB (boN s) a) (by omega)) (j := 6) (c 6 + (if acS s a 6 = -1 then 1 else 0)) (by omega)
    unfold laC
    rw [if_pos (show laP s a from ⟨hd, hc⟩)]
    exact this
  have e4 : laC s c a 4 = c 4 := by unfold laC; rw [if_pos (show laP s a from ⟨hd, hc⟩)]; simp (disch := omega) only [us_ne]
  have rd2 : RD (wr (wr (wr g1 L 5 (c 5 + 1)) L 7 (c 7 + tkB (boN s) a)) L 6 (c 6 + (if acS s a 6 = -1 then 1 else 0))) b (laS s a) := by
    unfold laS
    rw [if_pos (show laP s a from ⟨hd, hc⟩)]
    exact RD_L hb hl (RD_L hb hl (RD_L hb hl q1 _ _) _ _) _ _
  have f2 : FW b L g (wr (wr (wr g1 L 5 (c 5 + 1)) L 7 (c 7 + tkB (boN s) a)) L 6 (c 6 + (if acS s a 6 = -1 then 1 else 0))) := FW_tr (FW_tr (FW_tr (FW_FD p4) (FW_L _ _ _ (by omega))) (FW_L _ _ _ (by omega))) (FW_L _ _ _ (by omega))
  have e4' := r2 4 (by omega) (by omega)
  rw [e4] at e4'
  rw [K_liv hl, oC_of e74]
  generalize wr (wr (wr g1 L 5 (c 5 + 1)) L 7 (c 7 + tkB (boN s) a)) L 6 (c 6 + (if acS s a 6 = -1 then 1 else 0)) = g2 at *
  simp (disch := omega) only [↓K_liv hl, ↓G_liv hl, ↓P_liv hl, e4', w32_id, Int.add_zero]
  rw [if_neg (by decide)]
  refine Ok_some (hP _ (RD_L hb hl rd2 _ _) (RL_fr r2 (fun i hi1 => ?_)) (FW_tr f2 (FW_L _ _ _ (by omega))))
  rw [rd_wr_if g2 L (c 4) (by omega) (by omega)]
  by_cases z : i = 4
  · rw [if_pos z, z, e4']
  · rw [if_neg z]
/-- what was missed is counted -/
theorem miss_t (hl : isL L) (r : RL g L c) (h0 : 0 ≤ c 4) (h1 : c 4 ≤ 300) (p : Prop) [Decidable p] : ∃ x, (oK (getf S0 (ov g) 4 L 4) none fun x => if b2i p = 0 then oK (putf S0 (ov g) 4 L 4 (w32 (x + 1))) none fun h => some ((0 : Int), S0, h) else oK (putf S0 (ov g) 4 L 4 (w32 (x + 0))) none fun h => some (0, S0, h)) = some (0, S0, ov (wr g L 4 x)) ∧ RL (wr g L 4 x) L (if p then c else us c 4 (c 4 + 1)) := by
  have e4 : rd g L 4 = c 4 := r 4 (by omega) (by omega)
  by_cases h : p
  · refine ⟨c 4, ?_, ?_⟩
    · simp (disch := omega) only [↓K_liv hl, ↓G_liv hl, ↓P_liv hl, ↓if_b2i, e4, w32_id, Int.add_zero, h, ↓reduceIte]
    · rw [if_pos h]
      intro i a b'
      rw [rd_wr_if g L (c 4) (by have := isL_rng hl; omega) (by omega)]
      by_cases z : i = 4
      · rw [if_pos z, z]
      · rw [if_neg z]; exact r i a b'
  · refine ⟨c 4 + 1, ?_, ?_⟩
    · simp (disch := omega) only [↓K_liv hl, ↓G_liv hl, ↓P_liv hl, ↓if_b2i, e4, w32_id, Int.add_zero, h, ↓reduceIte]
    · rw [if_neg h]
      exact RL_wr r _ (by omega)
theorem c_73 (hb : isD b) (hl : isL L) (rd' : RD g b s) (hi : Iv N s) (hN : N < 800000) (r : RL g L c) (il : IL M c) (hM : M ≤ 300) (i : Int) (i0 : 0 ≤ i) (i1 : i < 30) {W A O Z : Int} (hW : rd g (b + 14) i = W) (hA : rd g (b + 17) i = A) (hO : rd g (b + 18) i = O) (hZ : rd g (b + 19) i = Z) (ok : okS s W A O Z) : Ok (fun _ g' => RD g' b (doS s c W A O Z) ∧ RL g' L (doC s c W A O Z) ∧ FW b L g g') (MI X (d + 5) 73 [.inr (.inr L), .inr (.inr b), .inl i] S0 (ov g)) := by
  have hl2 := isL_rng hl
  have hb2 := isD_rng hb
  have il' := id il
  obtain ⟨h1, h2, h3, h4, h5, h6, h7, h8, h9, h10⟩ := il
  obtain ⟨w1, w2, w3, w4⟩ := ok
  rw [e_73]
  simp (disch := omega) only [↓G_daw hb, ↓G_yrs hb, ↓al_D14 _ hb, hW]
  unfold doS doC
  by_cases e12 : W = 12
  · obtain ⟨a1, a2, a3, a4⟩ := w3 e12
    rw [if_pos e12, if_pos e12, if_pos e12]
    simp (disch := omega) only [↓G_yrs hb, ↓al_D17 _ hb, ↓al_D18 _ hb, hA, hO, ↓K_daw hb]
    obtain ⟨v, g1, e, p1, p2, p3⟩ := c_42 (X := X) (d := d + 4) hb rd' hi A O a1 a2 a3 a4
    have r1 : RL g1 L c := RL_fr r (fun j hj => p3 L j (by omega) (by omega) (by omega))
    obtain ⟨x, ex, rx⟩ := miss_t hl r1 h3 (by omega) (A ≠ O ∧ ¬ (mn s A 1 = 0 ∨ mn s O 1 = 0))
    rw [oC_of e, p1, ex]
    refine Ok_some ⟨RD_L hb hl p2 _ _, rx, FW_tr (fun c i a e f k l m n o => p3 c i a e (by omega)) (FW_L _ _ _ (by omega))⟩
  rw [if_neg e12, if_neg e12, if_neg e12]
  by_cases e17 : W = 17
  · obtain ⟨a1, a2, a3, a4⟩ := w4 e17
    rw [if_pos e17, if_pos e17, if_pos e17]
    simp (disch := omega) only [↓G_yrs hb, ↓al_D17 _ hb, ↓al_D19 _ hb, hA, hZ, ↓K_daw hb]
    have e := c_44 (X := X) (d := d + 4) hb rd' hi A Z a1 a2 a3 a4
    rw [oC_of e]
    have i3 := hi.2.2.2.1
    have i1' := hi.2.1
    have q1 : RD (if mn s A 1 < mn s A 2 then wr g (b + 7) A (am_min (mn s A 2) (mn s A 1 + Z)) else g) b (if cuP s A then cuS s A Z else s) := by
      by_cases z : mn s A 1 < mn s A 2
      · rw [if_pos z, if_pos z]
        have q := RD_um hb rd' i1' i3 (m := A) (w0 := 1) (am_min (mn s A 2) (mn s A 1 + Z)) a1 (by omega)
        rw [show b + 6 + 1 = b + 7 by omega] at q
        exact q
      · rw [if_neg z, if_neg z]; exact rd'
    have f1 : FW b L g (if mn s A 1 < mn s A 2 then wr g (b + 7) A (am_min (mn s A 2) (mn s A 1 + Z)) else g) := by
      split
      · exact fun c i a e f k l m n o => rd_wr_ne _ _ _ _ (by omega) a l
      · exact FW_rf _ _ _
    have r1 : RL (if mn s A 1 < mn s A 2 then wr g (b + 7) A (am_min (mn s A 2) (mn s A 1 + Z)) else g) L c := RL_fr r (fun j hj => by
      split
      · exact rd_wr_ne _ _ _ _ (by omega) (by omega) (by omega)
      · rfl)
    generalize (if mn s A 1 < mn s A 2 then wr g (b + 7) A (am_min (mn s A 2) (mn s A 1 + Z)) else g) = g1 at *
    obtain ⟨x, ex, rx⟩ := miss_t hl r1 h3 (by omega) (mn s A 1 < mn s A 2)
    rw [ex]
    exact Ok_some ⟨RD_L hb hl q1 _ _, rx, FW_tr f1 (FW_L _ _ _ (by omega))⟩
  rw [if_neg e17, if_neg e17, if_neg e17]
  simp (disch := omega) only [↓G_liv hl]
  by_cases e18 : W = 18
  · rw [if_pos e18, if_pos e18, if_pos e18, K_liv hl, oC_of (c_75 hl r h1 h2), K_bou]
    have p0 : 0 ≤ drN c ∧ drN c < 65536 := by unfold drN; omega
    have il2 : IL M (us c 1 (drN c)) := by
      unfold IL at *
      simp (disch := omega) only [us_eq, us_ne]
      omega
    exact c_la hb hl (RD_L hb hl rd' _ _) hi hN (RL_wr r (j := 1) (drN c) (by omega)) il2 hM (drN c / 8 % 4) (by omega) (fun g' q1 q2 q3 => ⟨q1, q2, FW_tr (FW_L _ _ _ (by omega)) q3⟩)
  · rw [if_neg e18, if_neg e18, if_neg e18, w32_id (x := W - 13) (by omega) (by omega), K_bou]
    exact c_la hb hl rd' hi hN r il' hM (W - 13) (by omega) (fun g' q1 q2 q3 => ⟨q1, q2, q3⟩)
end
