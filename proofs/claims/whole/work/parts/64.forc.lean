/-! VALUE and MOVE in the model, MOVE in the class; FORCED of both -/
section
variable {X : Xs} {d : Nat} {g : Mem} {s : Int → Int} {N : Int}
theorem lcmp_lt (a b : Int) : (am_lcmp a b < 0) ↔ a < b := by
  unfold am_lcmp
  split
  · omega
  · split <;> omega
theorem lcmp_gt (a b : Int) : (0 < am_lcmp a b) ↔ b < a := by
  unfold am_lcmp
  split
  · omega
  · split <;> omega
theorem lcmp_eq (a b : Int) : (am_lcmp a b = 0) ↔ a = b := by
  unfold am_lcmp
  split
  · omega
  · split <;> omega
theorem m_212 (v a b : Int) (S : Sh) (h : Mem) : MI X d 212 [.inr (.inl v), .inr (.inl a), .inr (.inl b)] S h = some (b2i (a ≤ v ∧ v ≤ b), S, h) := by
  rw [e_212]
  simp only [lcmp_lt, lcmp_gt]
  unfold b2i
  (repeat' split) <;> first | rfl | (exfalso; omega)
theorem iu10 (hi : Iv N s) (hd : s 6 ≠ -1) : 0 ≤ s 10 ∧ s 10 ≤ N := by
  have := (hi.2.2.2.2.2.2.2.2.2.2.2.2.2.2.2.2.2.2 hd)
  omega
theorem lfX_0 (side : Int) : lfX 0 side = lfV := by funext B; rfl
theorem lfX_1 (side : Int) : lfX 1 side = lfF side := by funext B; rfl
theorem m_296 (r : RM g s) (hi : Iv N s) (hN : N < 800000) (n : Int) : AnM g (qValue s n) (MI X (d + 9) 296 [.inr (.inr 143), .inl n] S0 (ov g)) := by
  rw [e_296]
  unfold qValue
  simp only [↓oC_of (m_212 _ _ _ _ _), ↓if_b2i, ↓K_mod]
  by_cases h1 : n < 0 ∨ 7 < n
  · rw [if_pos h1, if_neg (by omega)]
    exact AnM_no (FN_rf g) 1
  rw [if_neg h1, if_pos (by omega : (0 : Int) ≤ n ∧ n ≤ 7)]
  simp only [↓oC_of (m_268 r), ↓if_b2i, ↓K_mod]
  by_cases hd : s 6 = -1
  · rw [if_pos hd, if_neg (fun z => z hd)]
    exact AnM_no (FN_rf g) 6
  rw [if_neg hd, if_pos hd]
  obtain ⟨k, rfl⟩ : ∃ k : Nat, n = k := ⟨n.toNat, by omega⟩
  rw [Int.toNat_natCast]
  cases k with
  | zero =>
    obtain ⟨v, g2, e, q1, q2, q3⟩ := m_295_0 (X := X) (d := d) r hi hd
    rw [show ((0 : Nat) : Int) = 0 from rfl, oC_of e, K_mod, q1]
    exact AnM_tell (FN_FQ q3) _
  | succ k =>
    obtain ⟨v, g2, e, q1, q2, q3, q4⟩ := m_295_n (X := X) (d := d) r hi hN hd 0 (Or.inl rfl) k (by omega)
    rw [oC_of e, K_mod, q1, lfX_0]
    exact AnM_tell (FN_FQ q4) _
theorem m_297 (r : RM g s) (hi : Iv N s) (hN : N < 800000) (n : Int) : AnM g (qMove s n) (MI X (d + 9) 297 [.inr (.inr 143), .inl n] S0 (ov g)) := by
  rw [e_297]
  unfold qMove
  simp only [↓oC_of (m_212 _ _ _ _ _), ↓if_b2i, ↓K_mod]
  by_cases h1 : n < 1 ∨ 7 < n
  · rw [if_pos h1, if_neg (by omega)]
    exact AnM_no (FN_rf g) 1
  rw [if_neg h1, if_pos (by omega : (1 : Int) ≤ n ∧ n ≤ 7)]
  simp only [↓oC_of (m_268 r), ↓if_b2i, ↓K_mod]
  by_cases hd : s 6 = -1
  · rw [if_pos hd, if_neg (fun z => z hd)]
    exact AnM_no (FN_rf g) 6
  rw [if_neg hd, if_pos hd]
  obtain ⟨k, rfl⟩ : ∃ k : Nat, n = (k + 1 : Nat) := ⟨(n - 1).toNat, by omega⟩
  obtain ⟨v, g2, e, q1, q2, q3, q4⟩ := m_295_n (X := X) (d := d) r hi hN hd 0 (Or.inl rfl) k (by omega)
  rw [oC_of e, (G_mod g2 _ _).2.2.2.2.2.2.2.2.2.2.2.2.2.2.2.2.2.2.2.2.2.2.2.2.2.2.1, al_154 X g2 (by omega) (by omega), K_mod, q2, show (((k + 1 : Nat) : Int) - 1).toNat = k by omega]
  simp only [↓reduceIte, lfX_0]
  exact AnM_tell (FN_FQ q4) _
theorem chF_0 (B : Int → Int) (f : Int → Int) (h1 : -1000 < f 0) (h2 : f 0 < 1000) : chF (decide (B 6 % 2 = 0)) (fun a => decide (caB B a)) f 4 0 (if B 6 % 2 = 0 then -1000 else 1000) (-1) = chF (decide (B 6 % 2 = 0)) (fun a => decide (caB B a)) f 3 1 (f 0) 0 := by
  rw [chF]
  by_cases e : B 6 % 2 = 0
  · simp only [caB_0, e, decide_true, cond_true, Bool.true_and, ↓reduceIte, h1, Int.zero_add]
  · simp only [caB_0, e, decide_true, decide_false, cond_true, cond_false, Bool.true_and, ↓reduceIte, h2, Int.zero_add]
theorem c_158 (r : RD g 19 s) (hi : Iv N s) (hN : N < 800000) (n : Int) : AnC g (qMove s n) (MI X (d + 12) 158 [.inr (.inr 1), .inl n] S0 (ov g)) := by
  rw [e_158]
  unfold qMove
  by_cases h1 : n < 1
  · rw [if_pos h1, if_pos (Or.inl h1)]
    simp only [↓K_top, ↓G_top, ↓P_top]
    exact AnC_no (FC_rf g) 1
  by_cases h2 : 7 < n
  · rw [if_neg h1, if_pos h2, if_pos (Or.inr h2)]
    simp only [↓K_top, ↓G_top, ↓P_top]
    exact AnC_no (FC_rf g) 1
  rw [if_neg h1, if_neg h2, if_neg (by omega)]
  simp only [↓K_top, ↓G_top, ↓P_top, ↓K_daw isD19, ↓oC_of (c_40 isD19 r), ↓if_b2i, ↓K_bou]
  by_cases hd : s 6 = -1
  · rw [if_pos hd, if_neg (fun z => z hd)]
    exact AnC_no (FC_rf g) 6
  · rw [if_pos hd, if_neg hd]
    refine Ok_bind (c_2 isD19 r hi hd) ?_
    rintro v g2 ⟨q1, q2⟩
    have IBs := IB_N hi (by omega) hd
    have h6 : boN s 6 < 800001 := by
      have := iu10 hi hd
      simp only [bo_all]
      omega
    obtain ⟨k, rfl⟩ : ∃ k : Nat, n = (k + 1 : Nat) := ⟨(n - 1).toNat, by omega⟩
    have c81 := c_81 (X := X) (d := d + 7 - k) k q1 IBs (by omega)
    rw [show d + 7 - k + k + 4 = d + 11 by omega] at c81
    simp only [↓K_top, ↓G_top, ↓P_top]
    obtain ⟨w, g3, e3, p1, p2, p3⟩ := c81
    rw [oC_of e3]
    simp only [↓K_top, ↓G_top, ↓P_top]
    have vr := vaV_in k (IB_pl IBs (Or.inl rfl) (caB_0 _) (by omega)) (by rw [(pl_all (boN s) 0 (Or.inl rfl)).2.2.1]; omega)
    rw [chF_0 (boN s) _ (by omega) (by omega)] at p1
    rw [p1, show (((k + 1 : Nat) : Int) - 1).toNat = k by omega]
    exact AnC_tell (FC_tr (FC_FB q2) (FC_FB p3)) _
end
/-- one turn more of who is to fall changes nothing -/
theorem fF_even (side : Int) (hs : side = 0 ∨ side = 1) : ∀ (n : Nat) (B : Int → Int), IB B → B 6 + n + 1 < 1000000 → (B 6 + n) % 2 ≠ side → vaB (lfF side) side (n + 1) B = vaB (lfF side) side n B := by
  intro n
  induction n with
  | zero =>
    intro B hi h6 hp
    have hi' := hi
    unfold IB at hi
    rw [show vaB (lfF side) side (0 + 1) B = if B 0 = 0 ∨ B 1 = 0 then lfF side B else bsF (decide (B 6 % 2 = side)) (fun a => decide (caB B a)) (fun a => vaB (lfF side) side 0 (plB B a)) 3 1 (vaB (lfF side) side 0 (plB B 0)) from rfl]
    by_cases ho : B 0 = 0 ∨ B 1 = 0
    · rw [if_pos ho]; rfl
    · rw [if_neg ho]
      have e : ¬ B 6 % 2 = side := by omega
      have z : vaB (lfF side) side 0 (plB B 0) = 0 := by
        show lfF side (plB B 0) = 0
        unfold lfF
        obtain ⟨p0, p1, -⟩ := pl_all B 0 (Or.inl rfl)
        rw [if_neg]
        rcases hs with rfl | rfl
        · have := p1 (by omega)
          rw [Int.sub_zero, this.1]
          simp only [↓reduceIte]
          unfold am_min
          split <;> omega
        · have := p0 (by omega)
          rw [Int.sub_self, this.1]
          simp only [↓reduceIte]
          unfold am_min
          split <;> omega
      have z2 : vaB (lfF side) side 0 B = 0 := by
        show lfF side B = 0
        unfold lfF
        rw [if_neg]
        rcases hs with rfl | rfl
        · rw [Int.sub_zero]; omega
        · rw [Int.sub_self]; omega
      rw [z, z2]
      simp only [e, decide_false]
      have q1 := bsF_dn (fun a => decide (caB B a)) (fun a => vaB (lfF side) side 0 (plB B a)) 3 1 0
      have q2 := bsF_in (fun x => 0 ≤ x) false (fun a => decide (caB B a)) (fun a => vaB (lfF side) side 0 (plB B a)) 3 1 0 (Int.le_refl 0) (fun b _ _ _ => (lfF_in side (plB B b)).1)
      omega
  | succ n ih =>
    intro B hi h6 hp
    rw [vaB]
    by_cases ho : B 0 = 0 ∨ B 1 = 0
    · rw [if_pos ho, vaB, if_pos ho]
    · rw [if_neg ho]
      have st : ∀ b, b = 0 ∨ b = 1 ∨ b = 2 ∨ b = 3 → caB B b → vaB (lfF side) side (n + 1) (plB B b) = vaB (lfF side) side n (plB B b) := fun b hb hc => by
        have e6 := (pl_all B b hb).2.2.1
        exact ih _ (IB_pl hi hb hc (by omega)) (by rw [e6]; omega) (by rw [e6]; omega)
      rw [show vaB (lfF side) side (n + 1) B = bsF (decide (B 6 % 2 = side)) (fun a => decide (caB B a)) (fun a => vaB (lfF side) side n (plB B a)) 3 1 (vaB (lfF side) side n (plB B 0)) by rw [vaB, if_neg ho]]
      rw [st 0 (Or.inl rfl) (caB_0 B)]
      exact bsF_congr _ _ _ _ 3 1 _ (fun b h1 h2 h3 => st b (by omega) (by simpa using h3))
/-- the first of k numbers of turns from n on, one by one, by twos -/
def fo1 (F : Nat → Int) : Nat → Nat → Int
  | 0, _ => -1
  | k + 1, n => if F n = 1 then (n : Int) else fo1 F k (n + 1)
def fo2 (F : Nat → Int) : Nat → Nat → Int
  | 0, _ => -1
  | k + 1, n => if F n = 1 then (n : Int) else fo2 F k (n + 2)
theorem fo_eq (F : Nat → Int) (h1 : F 2 = F 1) (h3 : F 4 = F 3) (h5 : F 6 = F 5) (h7 : F 8 = F 7) : fo1 F 8 1 = fo2 F 4 1 := by
  simp only [fo1, fo2, Nat.reduceAdd, h1, h3, h5, h7]
  by_cases e1 : F 1 = 1
  · simp only [e1, ↓reduceIte]
  · by_cases e3 : F 3 = 1
    · simp only [e1, e3, ↓reduceIte]
    · by_cases e5 : F 5 = 1
      · simp only [e1, e3, e5, ↓reduceIte]
      · by_cases e7 : F 7 = 1
        · simp only [e1, e3, e5, e7, ↓reduceIte]
        · simp only [e1, e3, e5, e7, ↓reduceIte]
def qForced (s : Int → Int) : Int × Int := if s 6 = -1 then (-1, 6) else orN (fo1 (fun n => vaB (lfF (s 10 % 2)) (s 10 % 2) n (boN s)) 8 1)
section
variable {X : Xs} {d : Nat} {g : Mem} {s : Int → Int} {N : Int}
theorem m_298_l (hi : Iv N s) (hN : N < 800000) (hd : s 6 ≠ -1) : ∀ (k n : Nat) (g1 : Mem), n + k = 9 → 1 ≤ n → RM g1 s → FN g g1 → AnM g (orN (fo1 (fun n => vaB (lfF (s 10 % 2)) (s 10 % 2) n (boN s)) k n)) (EI X (d + 9) 298 2 [some (.inr (.inr 143)), some (.inl (n : Int))] [] S0 (ov g1)) := by
  intro k
  induction k with
  | zero =>
    intro n g1 hk h1 r f
    rw [e_298_2, if_pos (by omega), K_mod]
    exact AnM_no f 6
  | succ k ih =>
    intro n g1 hk h1 r f
    rw [e_298_2, if_neg (by omega), K_mod, oC_of (m_268 r), if_b2i, if_pos hd, K_mod]
    obtain ⟨m, rfl⟩ : ∃ m : Nat, n = m + 1 := ⟨n - 1, by omega⟩
    obtain ⟨v, g2, e, q1, q2, q3, q4⟩ := m_295_n (X := X) (d := d) r hi hN hd 1 (Or.inr rfl) m (by omega)
    simp only [lfX_1, Int.reduceEq, ↓reduceIte] at q1
    rw [oC_of e, q1]
    unfold fo1
    by_cases z : vaB (lfF (s 10 % 2)) (s 10 % 2) (m + 1) (boN s) = 1
    · rw [if_pos z, if_pos z, K_mod]
      have : orN ((m + 1 : Nat) : Int) = (((m + 1 : Nat) : Int), 0) := if_neg (by omega)
      rw [this]
      exact AnM_tell (FN_tr f (FN_FQ q4)) _
    · rw [if_neg z, if_neg z, w32_id (by omega) (by omega)]
      exact ih (m + 1 + 1) g2 (by omega) (by omega) q3 (FN_tr f (FN_FQ q4))
theorem m_298 (r : RM g s) (hi : Iv N s) (hN : N < 800000) : AnM g (qForced s) (MI X (d + 9) 298 [.inr (.inr 143)] S0 (ov g)) := by
  rw [e_298]
  unfold qForced
  by_cases hd : s 6 = -1
  · rw [if_pos hd, e_298_2, if_neg (by decide), K_mod, oC_of (m_268 r), if_b2i, if_neg (fun z => z hd), K_mod]
    exact AnM_no (FN_rf g) 6
  · rw [if_neg hd]
    exact m_298_l hi hN hd 8 1 g (by omega) (by omega) r (FN_rf g)
theorem c_83_l {B : Int → Int} (hB : IB B) (h6 : B 6 < 900000) (side : Int) (hs : side = 0 ∨ side = 1) : ∀ (k n : Nat) (g1 : Mem), n + 2 * k = 9 → RB g1 B → FB g g1 → Ok (fun v g' => v = fo2 (fun n => vaB (lfF side) side n B) k n ∧ FB g g') (EI X (d + 11) 83 7 [some (.inr (.inr 125)), some (.inl side), some (.inl (n : Int))] [] S0 (ov g1)) := by
  intro k
  induction k with
  | zero =>
    intro n g1 hk r f
    rw [e_83_7, if_pos (by omega)]
    exact Ok_some ⟨rfl, f⟩
  | succ k ih =>
    intro n g1 hk r f
    rw [e_83_7, if_neg (by omega)]
    have c84 := c_84 (X := X) (d := d + 7 - n) side hs n B g1 r hB (by omega)
    rw [show d + 7 - n + n + 3 = d + 10 by omega] at c84
    obtain ⟨v, g2, e, q1, q2, q3⟩ := c84
    rw [oC_of e, q1]
    unfold fo2
    have vi := vaF_in side side n hB (by omega)
    by_cases z : vaB (lfF side) side n B = 1
    · rw [if_pos z, if_neg (show ¬ vaB (lfF side) side n B = 0 by omega)]
      exact Ok_some ⟨rfl, FB_tr f q3⟩
    · rw [if_neg z, if_pos (show vaB (lfF side) side n B = 0 by omega), w32_id (by omega) (by omega)]
      exact ih (n + 2) g2 (by omega) q2 (FB_tr f q3)
theorem c_159 (r : RD g 19 s) (hi : Iv N s) (hN : N < 800000) : AnC g (qForced s) (MI X (d + 12) 159 [.inr (.inr 1)] S0 (ov g)) := by
  rw [e_159]
  unfold qForced
  simp only [↓K_top, ↓G_top, ↓P_top, ↓K_daw isD19, ↓oC_of (c_40 isD19 r), ↓if_b2i, ↓K_bou]
  by_cases hd : s 6 = -1
  · rw [if_pos hd, if_neg (fun z => z hd)]
    exact AnC_no (FC_rf g) 6
  · rw [if_pos hd, if_neg hd]
    refine Ok_bind (c_2 isD19 r hi hd) ?_
    rintro v g2 ⟨q1, q2⟩
    have IBs := IB_N hi (by omega) hd
    have h6 := iu10 hi hd
    have hm : s 10 % 2 = 0 ∨ s 10 % 2 = 1 := by omega
    have h6' : boN s 6 = s 10 := rfl
    simp only [↓K_top, ↓G_top, ↓P_top]
    rw [e_83]
    simp only [↓K_bou, ↓oC_of (c_6 q1 IBs)]
    obtain ⟨w, g3, e3, p1, p2⟩ := c_83_l (X := X) (d := d) (g := g2) IBs (by omega) (s 10 % 2) hm 4 1 g2 (by omega) q1 (fun _ _ _ _ => rfl)
    have e3' : EI X (d + 10 + 1) 83 7 [some (.inr (.inr 125)), some (.inl (boN s 6 % 2)), some (.inl 1)] [] S0 (ov g2) = some (w, S0, ov g3) := e3
    rw [oC_of e3', K_top, p1]
    have ev := fun (n : Nat) (hn : n < 9) (hp : (s 10 + n) % 2 ≠ s 10 % 2) => fF_even (s 10 % 2) hm n (boN s) IBs (by omega) hp
    rw [fo_eq (fun n => vaB (lfF (s 10 % 2)) (s 10 % 2) n (boN s)) (ev 1 (by omega) (by omega)) (ev 3 (by omega) (by omega)) (ev 5 (by omega) (by omega)) (ev 7 (by omega) (by omega))]
    exact AnC_orN (FC_tr (FC_FB q2) (FC_FB p2)) _
end
