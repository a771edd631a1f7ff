/-! a DUEL that a TRAY tells: the model -/
/-- nothing but the DAWN, the counts and who fell is other -/
def FR (g g' : Mem) : Prop := ∀ c i, 0 ≤ c → 0 ≤ i → (c ≠ 144 ∨ 104 ≤ i) → c ≠ 158 → (c ≠ 143 ∨ i ≠ 31) → rd g' c i = rd g c i
theorem FR_tr {g g1 g2 : Mem} (h1 : FR g g1) (h2 : FR g1 g2) : FR g g2 := fun c i a b e f k => (h2 c i a b e f k).trans (h1 c i a b e f k)
theorem FR_rf (g : Mem) : FR g g := fun _ _ _ _ _ _ _ => rfl
theorem FR_FM {g g1 : Mem} (h : FM g g1) : FR g g1 := fun c i a b e f k => h c i a b e
theorem FR_31 (g : Mem) (x : Int) : FR g (wr g 143 31 x) := fun c i a b e f k => by
  by_cases z : c = 143
  · subst z; exact rd_wr_ix _ _ (by omega) b (by omega)
  · exact rd_wr_ne _ _ _ _ (by omega) a z
theorem FR_158 (g : Mem) (i x : Int) : FR g (wr g 158 i x) := fun c j a b e f k => rd_wr_ne _ _ _ _ (by omega) a f
theorem SV_FR {g g1 : Mem} {s : Int → Int} (h : FR g g1) (r : SV g 0 s) : SV g1 0 s := fun i a b => by
  rw [h _ _ (by omega) (by omega) (by omega) (by omega) (by omega)]
  exact r i a b
section
variable {X : Xs} {d : Nat} {g : Mem} {s : Int → Int} {N : Int}
theorem m_317_t {y : Int → Int} (r : RM g y) (sv : SV g 0 s) (m o c : Int) (m0 : 0 ≤ m) (m1 : m < 6) (o0 : 0 ≤ o) (o1 : o < 6) (hc : c = 0 ∨ c = 1) (h31 : rd g 143 31 = -1) : Ok (fun v g' => v = c ∧ rd g' 143 31 = (if mn y o 1 = 0 then o else if mn y m 1 = 0 then m else -1) ∧ RM g' s ∧ FR g g' ∧ (∀ i, 0 ≤ i → rd g' 158 i = rd g 158 i)) (EI X (d + 2) 317 171 [some (.inr (.inr 143)), some (.inl m), some (.inl o), none, none, some (.inl c), none, none] [] S0 (ov g)) := by
  rw [e_317_171]
  generalize hE : (if mn y o 1 = 0 then o else if mn y m 1 = 0 then m else -1) = E
  simp only [↓K_mod, ↓oC_of (m_252 r m 1 m0 m1 (by omega) (by omega))]
  have fin : ∀ (g1 : Mem) (x : Int), x = E → rd g1 143 31 = x → SV g1 0 s → FR g g1 → (∀ i, 0 ≤ i → rd g1 158 i = rd g 158 i) → Ok (fun v g' => v = c ∧ rd g' 143 31 = E ∧ RM g' s ∧ FR g g' ∧ (∀ i, 0 ≤ i → rd g' 158 i = rd g 158 i)) (oC (MI X (d + 1) 292 [.inr (.inr 143), .inl 2832] S0 (ov g1)) fun r8 S8 m8 => if c = 0 ∨ c = 1 then some (c, S8, m8) else none) := fun g1 x hx h1 h2 h3 h5 => by
    refine Ok_bind (m_292 g1 2832 (by omega) (by omega)) ?_
    rintro v g2 ⟨q1, q2⟩
    rw [if_pos hc]
    refine Ok_some ⟨rfl, ?_, fun i a b => ?_, FR_tr h3 (FR_FM q2), fun i a => ?_⟩
    · rw [q2 _ _ (by omega) (by omega) (by omega), h1, hx]
    · rw [q1 i a b]
      have z := h2 i a b
      simp only [Int.mul_zero, Int.add_zero] at z
      exact z
    · rw [q2 _ _ (by omega) a (by omega)]; exact h5 i a
  by_cases h1 : mn y m 1 = 0
  · rw [if_pos h1]
    have r2 : RM (wr g 143 31 m) y := RM_wo r _ _ (by omega) (by omega)
    have e3 : ∀ (h : Mem) (x : Int) (f : Mem → Option Rs), oK (putf S0 (ov h) 11 143 31 x) none f = f (ov (wr h 143 31 x)) := fun h x f => by simp only [P_mod]
    rw [e3, oC_of (m_252 r2 o 1 o0 o1 (by omega) (by omega))]
    by_cases h2 : mn y o 1 = 0
    · rw [if_pos h2, e3, K_mod]
      have f : FR g (wr (wr g 143 31 m) 143 31 o) := FR_tr (FR_31 _ _) (FR_31 _ _)
      refine fin _ o ?_ (rd_wr_eq _ _ _ _) (SV_FR f sv) f (fun i a => by rw [rd_wr_ne _ _ _ _ (by omega) (by omega) (by omega), rd_wr_ne _ _ _ _ (by omega) (by omega) (by omega)])
      rw [← hE, if_pos h2]
    · rw [if_neg h2, K_mod]
      refine fin _ m ?_ (rd_wr_eq _ _ _ _) (SV_FR (FR_31 _ _) sv) (FR_31 _ _) (fun i a => by rw [rd_wr_ne _ _ _ _ (by omega) (by omega) (by omega)])
      rw [← hE, if_neg h2, if_pos h1]
  · have e3 : ∀ (h : Mem) (x : Int) (f : Mem → Option Rs), oK (putf S0 (ov h) 11 143 31 x) none f = f (ov (wr h 143 31 x)) := fun h x f => by simp only [P_mod]
    rw [if_neg h1]
    by_cases h2 : mn y o 1 = 0
    · simp only [↓K_mod, ↓oC_of (m_252 r o 1 o0 o1 (by omega) (by omega))]
      rw [if_pos h2, e3]
      refine fin _ o ?_ (rd_wr_eq _ _ _ _) (SV_FR (FR_31 _ _) sv) (FR_31 _ _) (fun i a => by rw [rd_wr_ne _ _ _ _ (by omega) (by omega) (by omega)])
      rw [← hE, if_pos h2]
    · simp only [↓K_mod, ↓oC_of (m_252 r o 1 o0 o1 (by omega) (by omega))]
      rw [if_neg h2]
      refine fin _ (-1) ?_ h31 sv (FR_rf g) (fun _ _ => rfl)
      rw [← hE, if_neg h2, if_neg h1]
/-- the loop is left when an ACT couldn't be -/
theorem m_317_x {y : Int → Int} (r : RM g y) (sv : SV g 0 s) (m o t n i : Int) (m0 : 0 ≤ m) (m1 : m < 6) (o0 : 0 ≤ o) (o1 : o < 6) (h31 : rd g 143 31 = -1) : Ok (fun v g' => v = 0 ∧ RM g' s ∧ FR g g') (EI X (d + 2) 317 165 [some (.inr (.inr 143)), some (.inl m), some (.inl o), some (.inl t), some (.inl n), some (.inl 0), some (.inl i), none] [] S0 (ov g)) := by
  rw [e_317_165, e_317_73]
  have q := m_317_t (X := X) (d := d) r sv m o 0 m0 m1 o0 o1 (Or.inl rfl) h31
  by_cases h : w32 (i + 1) < n
  · rw [if_pos h, if_pos rfl]
    exact Ok_mono q (fun v g' z => ⟨z.1, z.2.2.1, z.2.2.2.1⟩)
  · rw [if_neg h]
    exact Ok_mono q (fun v g' z => ⟨z.1, z.2.2.1, z.2.2.2.1⟩)
/-- an ACT that can be -/
theorem m_317_s {y : Int → Int} (r : RM g y) (hi : Iv N y) (hN : N < 900000) (hd : y 6 ≠ -1) (m o t n i a x z : Int) (t0 : 0 ≤ t) (t4 : t < 4) (i0 : 0 ≤ i) (i1 : i < n) (n1 : n ≤ 20) (ha : a = 0 ∨ a = 1 ∨ a = 2 ∨ a = 3) (hr : rd g 148 (60 * t + i) = a) (hc : caB (boN y) a) (hx : rd g 158 0 = x) (hz : rd g 158 1 = z) (x0 : 0 ≤ x) (x1 : x < 1000) (z0 : 0 ≤ z) (z1 : z < 1000) : ∃ g', EI X (d + 8) 317 73 [some (.inr (.inr 143)), some (.inl m), some (.inl o), some (.inl t), some (.inl n), some (.inl 1), some (.inl i), none] [] S0 (ov g) = EI X (d + 8) 317 165 [some (.inr (.inr 143)), some (.inl m), some (.inl o), some (.inl t), some (.inl n), some (.inl 1), some (.inl i), none] [] S0 (ov g') ∧ RM g' (acS y a) ∧ rd g' 158 0 = (if (a ≠ 3 ∧ caB (boN y) 3) ∧ boN y 6 % 2 = 0 then x + 1 else x) ∧ rd g' 158 1 = (if (a ≠ 3 ∧ caB (boN y) 3) ∧ boN y 6 % 2 = 1 then z + 1 else z) ∧ FR g g' ∧ rd g' 143 31 = rd g 143 31 := by
  have i10 := (iu10 hi hd).1
  have e6 : boN y 6 = y 10 := rfl
  have q275 := m_275 (X := X) (d := d + 2) r hi hd a (by omega) (by omega)
  have q275' := m_275 (X := X) (d := d + 2) r hi hd 3 (by omega) (by omega)
  have e1 : ∀ (f : Int → Option Rs), oK (getf S0 (ov g) 11 143 7) none f = f 148 := fun f => (G_mod g (none : Option Rs) f).2.2.2.2.2.2.2.1
  have e2 : ∀ (h : Mem) (f : Int → Option Rs), oK (getf S0 (ov h) 11 143 30) none f = f 158 := fun h f => (G_mod h (none : Option Rs) f).2.2.2.2.2.2.2.2.2.2.2.2.2.2.2.2.2.2.2.2.2.2.2.2.2.2.2.2.2.2.1
  rw [e_317_73, if_pos i1, if_neg (by decide), e1, w32_id (x := 60 * t) (by omega) (by omega), w32_id (x := 60 * t + i) (by omega) (by omega), al_148 g (by omega) (by omega), hr, K_mod, oC_of (m_268 r), if_b2i, if_pos hd, w32_id (x := a) (by omega) (by omega), K_mod, oC_of q275, if_b2i, if_pos hc, if_neg (by decide)]
  by_cases h3 : a = 3
  · rw [if_pos h3, K_mod]
    obtain ⟨v, g2, e, p1, p2, p3⟩ := m_279 (X := X) (d := d) r hi hN hd a ha
    rw [oC_of e]
    refine ⟨g2, rfl, p2, ?_, ?_, FR_FM p3, p3 _ _ (by omega) (by omega) (by omega)⟩
    · rw [if_neg (fun w => w.1.1 h3), p3 _ _ (by omega) (by omega) (by omega)]; exact hx
    · rw [if_neg (fun w => w.1.1 h3), p3 _ _ (by omega) (by omega) (by omega)]; exact hz
  rw [if_neg h3, K_mod, oC_of q275', if_b2i]
  by_cases hc3 : caB (boN y) 3
  case neg =>
    rw [if_neg hc3, K_mod]
    obtain ⟨v, g2, e, p1, p2, p3⟩ := m_279 (X := X) (d := d) r hi hN hd a ha
    rw [oC_of e]
    refine ⟨g2, rfl, p2, ?_, ?_, FR_FM p3, p3 _ _ (by omega) (by omega) (by omega)⟩
    · rw [if_neg (fun w => hc3 w.1.2), p3 _ _ (by omega) (by omega) (by omega)]; exact hx
    · rw [if_neg (fun w => hc3 w.1.2), p3 _ _ (by omega) (by omega) (by omega)]; exact hz
  rw [if_pos hc3, e2, K_mod, oC_of (m_270 r i10)]
  have hm : y 10 % 2 = 0 ∨ y 10 % 2 = 1 := by omega
  rcases hm with e | e
  · have hv : rd g 158 (y 10 % 2) = x := by rw [e]; exact hx
    rw [al_158 X g (by omega) (by omega), hv, w32_id (x := x + 1) (by omega) (by omega), as_158 g _ (by omega) (by omega), K_mod, show wr g 158 (y 10 % 2) (x + 1) = wr g 158 0 (x + 1) by rw [e]]
    obtain ⟨v, g2, e5, p1, p2, p3⟩ := m_279 (X := X) (d := d) (RM_wo r (c := 158) 0 (x + 1) (by omega) (by omega)) hi hN hd a ha
    rw [oC_of e5]
    refine ⟨g2, rfl, p2, ?_, ?_, FR_tr (FR_158 _ _ _) (FR_FM p3), ?_⟩
    · rw [if_pos ⟨⟨h3, hc3⟩, e⟩, p3 _ _ (by omega) (by omega) (by omega), rd_wr_eq]
    · rw [if_neg (fun w => by omega), p3 _ _ (by omega) (by omega) (by omega), rd_wr_ix _ _ (by omega) (by omega) (by omega)]; exact hz
    · rw [p3 _ _ (by omega) (by omega) (by omega), rd_wr_ne _ _ _ _ (by omega) (by omega) (by omega)]
  · have hv : rd g 158 (y 10 % 2) = z := by rw [e]; exact hz
    rw [al_158 X g (by omega) (by omega), hv, w32_id (x := z + 1) (by omega) (by omega), as_158 g _ (by omega) (by omega), K_mod, show wr g 158 (y 10 % 2) (z + 1) = wr g 158 1 (z + 1) by rw [e]]
    obtain ⟨v, g2, e5, p1, p2, p3⟩ := m_279 (X := X) (d := d) (RM_wo r (c := 158) 1 (z + 1) (by omega) (by omega)) hi hN hd a ha
    rw [oC_of e5]
    refine ⟨g2, rfl, p2, ?_, ?_, FR_tr (FR_158 _ _ _) (FR_FM p3), ?_⟩
    · rw [if_neg (fun w => by omega), p3 _ _ (by omega) (by omega) (by omega), rd_wr_ix _ _ (by omega) (by omega) (by omega)]; exact hx
    · rw [if_pos ⟨⟨h3, hc3⟩, e⟩, p3 _ _ (by omega) (by omega) (by omega), rd_wr_eq]
    · rw [p3 _ _ (by omega) (by omega) (by omega), rd_wr_ne _ _ _ _ (by omega) (by omega) (by omega)]
/-- what the loop leaves behind -/
def gtP (s : Int → Int) (m o : Int) (g : Mem) (q : Bool × (Int → Int) × Int × Int) (v : Int) (g' : Mem) : Prop := v = b2i (q.1 = true) ∧ (q.1 = true → rd g' 158 0 = q.2.2.1 ∧ rd g' 158 1 = q.2.2.2 ∧ rd g' 143 31 = (if q.2.1 1 = 0 then o else if q.2.1 0 = 0 then m else -1)) ∧ RM g' s ∧ FR g g'
theorem gtP_tr {g g1 g' : Mem} {m o : Int} {q : Bool × (Int → Int) × Int × Int} {v : Int} (f : FR g g1) (h : gtP s m o g1 q v g') : gtP s m o g q v g' := ⟨h.1, h.2.1, h.2.2.1, FR_tr f h.2.2.2⟩
theorem m_317_l {w : Int → Int} (m o t n : Int) (m0 : 0 ≤ m) (m1 : m < 6) (o0 : 0 ≤ o) (o1 : o < 6) (t0 : 0 ≤ t) (t4 : t < 4) (n1 : n ≤ 20) (hw4 : ∀ j, 0 ≤ j → j < n → 0 ≤ w j ∧ w j < 4) : ∀ (k : Nat) (i : Int) (B y : Int → Int) (x z M : Int) (g : Mem), i + k = n → 0 ≤ i → RM g y → SV g 0 s → rd g 143 31 = -1 → mn y m 1 = B 0 → mn y o 1 = B 1 → ((y 6 = -1 ∧ (B 0 = 0 ∨ B 1 = 0)) ∨ (Iv M y ∧ M + k < 900000 ∧ y 6 = m ∧ y 7 = o ∧ B = boN y)) → rd g 158 0 = x → rd g 158 1 = z → 0 ≤ x → x ≤ i → 0 ≤ z → z ≤ i → (∀ j, 0 ≤ j → j < n → rd g 148 (60 * t + j) = w j) → Ok (gtP s m o g (rpF w k i B x z)) (EI X (d + 8) 317 73 [some (.inr (.inr 143)), some (.inl m), some (.inl o), some (.inl t), some (.inl n), some (.inl 1), some (.inl i), none] [] S0 (ov g)) := by
  intro k
  induction k with
  | zero =>
    intro i B y x z M g hk i0 r sv h31 b0 b1 hst hx hz x0 x1 z0 z1 hw
    rw [e_317_73, if_neg (by omega)]
    refine Ok_mono (m_317_t (d := d + 6) r sv m o 1 m0 m1 o0 o1 (Or.inr rfl) h31) ?_
    rintro v g' ⟨q1, q2, q3, q4, q5⟩
    refine ⟨q1, fun _ => ⟨(q5 0 (by omega)).trans hx, (q5 1 (by omega)).trans hz, ?_⟩, q3, q4⟩
    rw [q2, b0, b1]
    rfl
  | succ k ih =>
    intro i B y x z M g hk i0 r sv h31 b0 b1 hst hx hz x0 x1 z0 z1 hw
    have hwi := hw i i0 (by omega)
    have hw4i := hw4 i i0 (by omega)
    have e1 : ∀ (f : Int → Option Rs), oK (getf S0 (ov g) 11 143 7) none f = f 148 := fun f => (G_mod g (none : Option Rs) f).2.2.2.2.2.2.2.1
    rcases hst with ⟨h6, hov⟩ | ⟨hi, hM, h6, h7, hB⟩
    · rw [e_317_73, if_pos (show i < n by omega), if_neg (show ¬ (1 : Int) = 0 by decide), e1, w32_id (x := 60 * t) (by omega) (by omega), w32_id (x := 60 * t + i) (by omega) (by omega), al_148 g (by omega) (by omega), K_mod, oC_of (m_268 r), if_b2i, if_neg (fun q => q h6), if_pos rfl]
      have hh : B 0 = 0 ∨ B 1 = 0 ∨ ¬ caB B (w i) := by rcases hov with h | h; exact Or.inl h; exact Or.inr (Or.inl h)
      rw [rpF_s, if_pos hh]
      refine Ok_mono (m_317_x (d := d + 6) r sv m o t n i m0 m1 o0 o1 h31) ?_
      rintro v g' ⟨q1, q2, q3⟩
      exact ⟨q1, fun q => (by cases q), q2, q3⟩
    · have hd : y 6 ≠ -1 := by omega
      have nz : ¬ (B 0 = 0 ∨ B 1 = 0) := by
        obtain ⟨-, -, -, -, -, -, -, -, -, -, -, -, -, -, -, -, -, -, iu⟩ := id hi
        have q := iu hd
        rw [h6, h7] at q
        omega
      by_cases hc : caB B (w i)
      case neg =>
        have q275 := m_275 (X := X) (d := d + 2) r hi hd (w i) (by omega) (by omega)
        rw [e_317_73, if_pos (show i < n by omega), if_neg (show ¬ (1 : Int) = 0 by decide), e1, w32_id (x := 60 * t) (by omega) (by omega), w32_id (x := 60 * t + i) (by omega) (by omega), al_148 g (by omega) (by omega), hwi, K_mod, oC_of (m_268 r), if_b2i, if_pos hd, w32_id (x := w i) (by omega) (by omega), K_mod, oC_of q275, if_b2i, if_neg (by rw [← hB]; exact hc), if_pos rfl]
        rw [rpF_s, if_pos (show B 0 = 0 ∨ B 1 = 0 ∨ ¬ caB B (w i) from Or.inr (Or.inr hc))]
        refine Ok_mono (m_317_x (d := d + 6) r sv m o t n i m0 m1 o0 o1 h31) ?_
        rintro v g' ⟨q1, q2, q3⟩
        exact ⟨q1, fun q => (by cases q), q2, q3⟩
      have hh : ¬ (B 0 = 0 ∨ B 1 = 0 ∨ ¬ caB B (w i)) := fun q => by
        rcases q with q | q | q
        · exact nz (Or.inl q)
        · exact nz (Or.inr q)
        · exact q hc
      have ha : w i = 0 ∨ w i = 1 ∨ w i = 2 ∨ w i = 3 := by omega
      rw [rpF_s, if_neg hh]
      obtain ⟨g2, e, p1, p2, p3, p4, p5⟩ := m_317_s (X := X) (d := d) r hi (by omega) hd m o t n i (w i) x z t0 t4 i0 (by omega) n1 ha hwi (by rw [← hB]; exact hc) hx hz x0 (by omega) z0 (by omega)
      rw [e, e_317_165, w32_id (x := i + 1) (by omega) (by omega)]
      obtain ⟨l6, l7, lo, ln⟩ := acS_life hi (by omega) hd (w i) ha (by rw [← hB]; exact hc)
      rw [← hB] at p2 p3 l6 l7 lo ln
      rw [h6] at l6
      rw [h7] at l7
      refine Ok_mono (ih (i + 1) (plB B (w i)) (acS y (w i)) _ _ (M + 1) g2 (by omega) (by omega) p1 (SV_FR p4 sv) (p5.trans h31) l6 l7 ?_ p2 p3 (by split <;> omega) (by split <;> omega) (by split <;> omega) (by split <;> omega) (fun j a b => ?_)) (fun v g' q => gtP_tr p4 q)
      · by_cases q : plB B (w i) 0 = 0 ∨ plB B (w i) 1 = 0
        · exact Or.inl ⟨lo q, q⟩
        · obtain ⟨-, n6, n7, nb⟩ := ln q
          exact Or.inr ⟨Iv_acS hi (by omega) hd (w i) ha (by rw [← hB]; exact hc), by omega, n6.trans h6, n7.trans h7, nb.symm⟩
      · rw [p4 _ _ (by omega) (by omega) (by omega) (by omega) (by omega)]
        exact hw j a b
theorem m_317 (r : RM g s) (hi : Iv N s) (hN : N < 800000) {w : Int → Int} {m o : Int} (h : two s m o) (t n : Int) (t0 : 0 ≤ t) (t4 : t < 4) (n0 : 0 ≤ n) (n1 : n ≤ 20) (hw4 : ∀ j, 0 ≤ j → j < n → 0 ≤ w j ∧ w j < 4) (hw : ∀ j, 0 ≤ j → j < n → rd g 148 (60 * t + j) = w j) : Ok (fun v g' => ∃ g1, gtP s m o g1 (rpF w n.toNat 0 (boN (yR s m o)) 0 0) v g' ∧ (∀ c i, 0 ≤ c → 0 ≤ i → (c ≠ 144 ∨ i < 2832) → (c ≠ 144 ∨ 104 ≤ i) → c ≠ 158 → (c ≠ 143 ∨ i ≠ 31) → rd g1 c i = rd g c i)) (MI X (d + 8) 317 [.inr (.inr 143), .inl m, .inl o, .inl t, .inl n] S0 (ov g)) := by
  obtain ⟨h1, h2, h3, h4, h5⟩ := id h
  obtain ⟨i0, i1, i2, i3, -, -, -, -, -, -, -, -, -, im, -⟩ := id hi
  have m1 := im m h1 h2
  have o1 := im o h3 h4
  have e2 : ∀ (h : Mem) (f : Int → Option Rs), oK (getf S0 (ov h) 11 143 30) none f = f 158 := fun h f => (G_mod h (none : Option Rs) f).2.2.2.2.2.2.2.2.2.2.2.2.2.2.2.2.2.2.2.2.2.2.2.2.2.2.2.2.2.2.1
  have e3 : ∀ (h : Mem) (x : Int) (f : Mem → Option Rs), oK (putf S0 (ov h) 11 143 31 x) none f = f (ov (wr h 143 31 x)) := fun h x f => by simp only [P_mod]
  have e4 : ∀ (h : Mem) (f : Int → Option Rs), oK (getf S0 (ov h) 11 143 0) none f = f 144 := fun h f => (G_mod h (none : Option Rs) f).1
  rw [e_317, K_mod]
  refine Ok_bind (m_291 g 2832 (by omega) (by omega)) ?_
  rintro v g1 ⟨q1, q2⟩
  rw [e2, as_158 g1 0 (by omega) (by omega), e2, as_158 _ 0 (by omega) (by omega), e3, e4, oC_of (m_232 m h1 (by omega) _ _), K_mod]
  generalize hg2 : wr (wr (wr g1 158 0 0) 158 1 0) 143 31 (-1) = g2
  have f12 : FR g1 g2 := by subst hg2; exact FR_tr (FR_tr (FR_158 _ _ _) (FR_158 _ _ _)) (FR_31 _ _)
  have r2 : RM g2 s := fun i a b => by
    subst hg2
    rw [rd_wr_ne _ _ _ _ (by omega) (by omega) (by omega), rd_wr_ne _ _ _ _ (by omega) (by omega) (by omega), rd_wr_ne _ _ _ _ (by omega) (by omega) (by omega), q2 _ _ (by omega) a (by omega)]
    exact r i a b
  have sv2 : SV g2 0 s := SV_FR f12 (fun i a b => by rw [show 2832 + 104 * 0 + i = 2832 + i by omega, q1 i a b]; exact r i a b)
  have x0 : rd g2 158 0 = 0 := by subst hg2; rw [rd_wr_ne _ _ _ _ (by omega) (by omega) (by omega), rd_wr_ix _ _ (by omega) (by omega) (by omega), rd_wr_eq]
  have x1 : rd g2 158 1 = 0 := by subst hg2; rw [rd_wr_ne _ _ _ _ (by omega) (by omega) (by omega), rd_wr_eq]
  have x31 : rd g2 143 31 = -1 := by subst hg2; exact rd_wr_eq _ _ _ _
  rw [oC_of (m_252 r2 m 2 h1 (by omega) (by omega) (by omega)), w32_id (x := 44 + 10 * m + 1) (by omega) (by omega), as_144 g2 _ (by omega) (by omega), e4, oC_of (m_232 o h3 (by omega) _ _), K_mod]
  have r3 := RM_us r2 (k := 44 + 10 * m + 1) (mn s m 2) (by omega)
  have eo : mn (us s (44 + 10 * m + 1) (mn s m 2)) o 2 = mn s o 2 := by rw [um_m _ _ _ _ (by omega) (by omega) (by omega) (by omega), if_neg (by omega)]
  rw [oC_of (m_252 r3 o 2 h3 (by omega) (by omega) (by omega)), eo, w32_id (x := 44 + 10 * o + 1) (by omega) (by omega), as_144 _ _ (by omega) (by omega), K_mod]
  have r4 := RM_us r3 (k := 44 + 10 * o + 1) (mn s o 2) (by omega)
  obtain ⟨y1, y2, y3, y4, y5, y6, y7, y8, y9⟩ := yR_all hi h
  have a1 : Iv N (us s (44 + 10 * m + 1) (mn s m 2)) := Iv_um hi _ h1 h2 (Or.inr (Or.inl ⟨rfl, by omega, by omega⟩))
  have e11 : us s (44 + 10 * m + 1) (mn s m 2) 1 = s 1 := um_k s _ h1 (by omega) (by omega)
  have a2 : Iv N (us (us s (44 + 10 * m + 1) (mn s m 2)) (44 + 10 * o + 1) (mn s o 2)) := Iv_um a1 _ h3 (by rw [e11]; exact h4) (Or.inr (Or.inl ⟨rfl, by omega, by rw [eo]; omega⟩))
  have e12 : us (us s (44 + 10 * m + 1) (mn s m 2)) (44 + 10 * o + 1) (mn s o 2) 1 = s 1 := by rw [um_k _ _ h3 (by omega) (by omega), e11]
  have lm : mn (us (us s (44 + 10 * m + 1) (mn s m 2)) (44 + 10 * o + 1) (mn s o 2)) m 1 = mn s m 2 := by rw [um_m _ _ _ _ (by omega) (by omega) (by omega) (by omega), if_neg (by omega), um_m _ _ _ _ (by omega) (by omega) (by omega) (by omega), if_pos ⟨rfl, rfl⟩]
  have lo : mn (us (us s (44 + 10 * m + 1) (mn s m 2)) (44 + 10 * o + 1) (mn s o 2)) o 1 = mn s o 2 := by rw [um_m _ _ _ _ (by omega) (by omega) (by omega) (by omega), if_pos ⟨rfl, rfl⟩]
  refine Ok_bind (m_273 (d := d + 5) r4 a2 m o h1 (by rw [e12]; exact h2) h3 (by rw [e12]; exact h4)) ?_
  rintro v5 g5 ⟨p1, p2, p3⟩
  rw [if_pos ⟨h5, by rw [lm, lo]; omega⟩] at p2
  have p2' : RM g5 (yR s m o) := p2
  have f25 : FR g2 g5 := FR_tr (FR_tr (FR_FM (FM_wr _ _ (by omega) (by omega))) (FR_FM (FM_wr _ _ (by omega) (by omega)))) (FR_FM p3)
  have k158 : ∀ i, 0 ≤ i → rd g5 158 i = rd g2 158 i := fun i a => by
    rw [p3 _ _ (by omega) a (by omega), rd_wr_ne _ _ _ _ (by omega) (by omega) (by omega), rd_wr_ne _ _ _ _ (by omega) (by omega) (by omega)]
  have k31 : rd g5 143 31 = -1 := by
    rw [p3 _ _ (by omega) (by omega) (by omega), rd_wr_ne _ _ _ _ (by omega) (by omega) (by omega), rd_wr_ne _ _ _ _ (by omega) (by omega) (by omega)]
    exact x31
  have f1 : FR g1 g5 := FR_tr f12 f25
  have b0 : mn (yR s m o) m 1 = boN (yR s m o) 0 := by
    have q := (bo_all (yR s m o) (yR s m o 6) (yR s m o 7)).1
    rw [y2] at q
    exact q.symm
  have b1 : mn (yR s m o) o 1 = boN (yR s m o) 1 := by
    have q := (bo_all (yR s m o) (yR s m o 6) (yR s m o 7)).2.1
    rw [y3] at q
    exact q.symm
  refine Ok_mono (m_317_l (s := s) (w := w) m o t n h1 (by omega) h3 (by omega) t0 t4 n1 hw4 n.toNat 0 (boN (yR s m o)) (yR s m o) 0 0 N g5 (by omega) (by omega) p2' (SV_FR f25 sv2) k31 b0 b1 (Or.inr ⟨y1, by omega, y2, y3, rfl⟩) ((k158 0 (by omega)).trans x0) ((k158 1 (by omega)).trans x1) (by omega) (by omega) (by omega) (by omega) (fun j a b => ?_)) (fun v6 g6 q => ⟨g5, q, fun c i a b e f k l => ?_⟩)
  · rw [f1 _ _ (by omega) (by omega) (by omega) (by omega) (by omega), q2 _ _ (by omega) (by omega) (by omega)]
    exact hw j a b
  · rw [f1 c i a b f k l]
    exact q2 c i a b (by omega)
theorem rpW_nn (g : Mem) (s : Int → Int) (m o t n : Int) : 0 ≤ rpW g s m o t n := by
  unfold rpW
  have hx := trN_c (g := g) (t := t) (n := n) rfl
  (repeat' split) <;> omega
theorem m_316_l (t n : Int) (t0 : 0 ≤ t) (t4 : t < 4) (n1 : n ≤ 20) {w : Int → Int} (hw : ∀ j, 0 ≤ j → j < n → rd g 148 (60 * t + j) = w j) : ∀ (k : Nat) (i : Int), i + k = n → 0 ≤ i → EI X (d + 1) 316 47 [some (.inr (.inr 143)), some (.inl t), some (.inl n), some (.inl i)] [] S0 (ov g) = some (if alW w k i = true then 0 else 5, S0, ov g) := by
  intro k
  induction k with
  | zero =>
    intro i hk i0
    rw [e_316_47, if_neg (by omega)]
    rfl
  | succ k ih =>
    intro i hk i0
    have e := hw i i0 (by omega)
    rw [e_316_47, if_pos (by omega)]
    simp (disch := omega) only [↓G_mod, w32_id, ↓al_148, e, ↓oC_of (m_212 _ _ _ _ _), ↓if_b2i]
    rw [alW_s]
    by_cases h : 0 ≤ w i ∧ w i ≤ 3
    · rw [if_pos h, decide_eq_true (show 0 ≤ w i ∧ w i < 4 by omega), Bool.true_and]
      exact ih (i + 1) (by omega) (by omega)
    · rw [if_neg h, decide_eq_false (show ¬ (0 ≤ w i ∧ w i < 4) by omega)]
      rfl
theorem m_316 (tr : TR g) (m o t n : Int) (h : two s m o) : MI X (d + 1) 316 [.inr (.inr 143), .inl t, .inl n] S0 (ov g) = some (rpW g s m o t n, S0, ov g) := by
  rw [e_316]
  unfold rpW
  have hx := trN_c (g := g) (t := t) (n := n) rfl
  by_cases ht : 0 ≤ t ∧ t < 4
  case neg =>
    have e1 : trN g t n = 1 := by omega
    rw [e1]
    have e2 : (if ¬ two s m o ∨ n < 0 ∨ 20 < n then (1 : Int) else if (1 : Int) ≠ 0 then 1 else if alW (fun i => rd g (4 + t) i) n.toNat 0 = true then 0 else 5) = 1 := by
      split
      · rfl
      · rfl
    rw [e2]
    by_cases y : t < 0 <;> simp (disch := omega) only [↓oC_of (m_205 _ _ _), ↓if_b2i, ↓oK_some, ↓oC_some, ↓if_pos, ↓if_neg, rd_wr_eq, rd_wr_ne, rd_wr_ix, w32_id]
  simp (disch := omega) only [↓oC_of (m_205 _ _ _), ↓if_b2i, ↓oK_some, ↓oC_some, ↓if_pos, ↓if_neg, rd_wr_eq, rd_wr_ne, rd_wr_ix, w32_id, ↓oC_of (m_212 _ _ _ _ _), ↓if_b2i]
  by_cases hn : 0 ≤ n ∧ n ≤ 20
  case neg => rw [if_neg hn, if_pos (Or.inr (by omega))]
  rw [if_pos hn, if_neg (show ¬ (¬ two s m o ∨ n < 0 ∨ 20 < n) from fun z => by rcases z with z | z; exact z h; omega)]
  generalize trN g t n = W at hx
  rcases hx with ⟨rfl, h⟩ | ⟨rfl, h⟩ | ⟨rfl, h, h4⟩ | ⟨rfl, h, h4, h5⟩ | ⟨rfl, h, h4, h5⟩
  · omega
  · omega
  · have q := (tr t h.1 h.2).2.2.1 h4
    simp (disch := omega) only [↓G_mod, ↓al_147 _, ↓oK_some, ↓oC_some, ↓if_pos, ↓if_neg, rd_wr_eq, rd_wr_ne, rd_wr_ix, w32_id]
  · have q := (tr t h.1 h.2).2.2.2 h4
    simp (disch := omega) only [↓G_mod, ↓al_147 _, ↓oK_some, ↓oC_some, ↓if_pos, ↓if_neg, rd_wr_eq, rd_wr_ne, rd_wr_ix, w32_id]
  · have q := (tr t h.1 h.2).2.2.2 h4
    rw [if_neg (show ¬ ((0 : Int) ≠ 0) from fun z => z rfl)]
    simp (disch := omega) only [↓G_mod, ↓al_147 _, ↓oK_some, ↓oC_some, ↓if_pos, ↓if_neg, rd_wr_eq, rd_wr_ne, rd_wr_ix, w32_id]
    exact m_316_l t n h.1 h.2 hn.2 (fun j a b => (q.2.2.2.2 j a (by omega)).symm) n.toNat 0 (by omega) (by omega)
/-- what a DUEL that is told gives, both calls -/
theorem m_317_q (tr : TR g) (r : RM g s) (hi : Iv N s) (hN : N < 800000) (m o t n : Int) (h0 : rpW g s m o t n = 0) : Ok (fun v g' => v = b2i ((rpR g s m o t n).1 = true) ∧ ((rpR g s m o t n).1 = true → rd g' 158 0 = (rpR g s m o t n).2.2.1 ∧ rd g' 158 1 = (rpR g s m o t n).2.2.2 ∧ rd g' 143 31 = (if (rpR g s m o t n).2.1 1 = 0 then o else if (rpR g s m o t n).2.1 0 = 0 then m else -1)) ∧ FN g g') (MI X (d + 8) 317 [.inr (.inr 143), .inl m, .inl o, .inl t, .inl n] S0 (ov g)) := by
  unfold rpW at h0
  by_cases z : ¬ two s m o ∨ n < 0 ∨ 20 < n
  · rw [if_pos z] at h0; omega
  rw [if_neg z] at h0
  have ht : two s m o := Decidable.byContradiction (fun y => z (Or.inl y))
  have hx := trN_c (g := g) (t := t) (n := n) rfl
  by_cases z2 : trN g t n ≠ 0
  · rw [if_pos z2] at h0; exact absurd h0 z2
  rw [if_neg z2] at h0
  have z3 : alW (fun i => rd g (4 + t) i) n.toNat 0 = true := by
    by_cases y : alW (fun i => rd g (4 + t) i) n.toNat 0 = true
    · exact y
    · rw [if_neg y] at h0; omega
  have hh : (0 ≤ t ∧ t < 4) ∧ rd g 8 t ≠ -1 ∧ n ≤ rd g 9 t := by omega
  have q := (tr t hh.1.1 hh.1.2).2.2.2 hh.2.1
  have al := alW_in _ _ _ z3
  refine Ok_mono (m_317 (d := d) (w := fun i => rd g (4 + t) i) r hi hN ht t n hh.1.1 hh.1.2 (by omega) (by omega) (fun j a b => al j a (by omega)) (fun j a b => (q.2.2.2.2 j a (by omega)).symm)) ?_
  rintro v g' ⟨g1, ⟨p1, p2, p3, p4⟩, p5⟩
  refine ⟨p1, p2, fun c i a b e f => ?_⟩
  have nsc : c ≠ 158 ∧ (c ≠ 143 ∨ i ≠ 31) ∧ (c ≠ 144 ∨ i < 2832) := by unfold ScM at e; omega
  by_cases y : c = 144 ∧ i < 104
  · obtain ⟨rfl, y⟩ := y
    rw [p3 i b y]
    exact (r i b y).symm
  · rw [p4 c i a b (by omega) nsc.1 nsc.2.1]
    exact p5 c i a b nsc.2.2 (by omega) nsc.1 nsc.2.1
theorem m_318 (tr : TR g) (r : RM g s) (hi : Iv N s) (hN : N < 800000) (m o t n w : Int) : AnM g (qHeldB g s m o t n w) (MI X (d + 9) 318 [.inr (.inr 143), .inl m, .inl o, .inl t, .inl n, .inl w] S0 (ov g)) := by
  rw [e_318]
  unfold qHeldB
  rw [K_mod, oC_of (m_248 r _ _), if_b2i]
  have hx : ∀ p : Prop, ¬ two s m o → p → rpW g s m o t n = 1 := fun p h _ => by unfold rpW; rw [if_pos (Or.inl h)]
  by_cases h1 : two s m o
  case neg =>
    rw [if_neg (show ¬ (0 ≤ m ∧ m < s 1 ∧ 0 ≤ o ∧ o < s 1 ∧ m ≠ o) from h1), if_pos (show (0 : Nat) < 1 by decide), K_mod, hx True h1 trivial, if_neg (show ¬ ((1 : Int) = 0) by decide)]
    have e : (if w < 0 ∨ 1 < w then ((-1 : Int), (1 : Int)) else (-1, 1)) = (-1, 1) := by split <;> rfl
    rw [e]
    exact AnM_no (FN_rf g) 1
  rw [if_pos (show (0 ≤ m ∧ m < s 1 ∧ 0 ≤ o ∧ o < s 1 ∧ m ≠ o) from h1), oC_of (m_212 _ _ _ _ _), if_b2i]
  by_cases h2 : 0 ≤ w ∧ w ≤ 1
  case neg =>
    rw [if_neg h2, if_pos (show (0 : Nat) < 1 by decide), K_mod, if_pos (show w < 0 ∨ 1 < w by omega)]
    exact AnM_no (FN_rf g) 1
  rw [if_pos h2, if_neg (show ¬ (w < 0 ∨ 1 < w) by omega), K_mod, oC_of (m_316 (d := d + 7) tr m o t n h1)]
  by_cases h3 : rpW g s m o t n = 0
  case neg =>
    have hp : 0 < rpW g s m o t n := by have := rpW_nn g s m o t n; omega
    rw [if_pos hp, if_neg h3, K_mod]
    exact AnM_no (FN_rf g) _
  rw [if_neg (show ¬ 0 < rpW g s m o t n by omega), if_pos h3, K_mod]
  refine Ok_bind (m_317_q tr r hi hN m o t n h3) ?_
  rintro v g1 ⟨a1, a2, a3⟩
  rw [a1, if_b2i]
  by_cases h4 : (rpR g s m o t n).1 = true
  case neg =>
    rw [if_neg h4, if_neg h4, K_mod]
    exact AnM_no a3 7
  obtain ⟨b1, b2, b3⟩ := a2 h4
  rw [if_pos h4, if_pos h4]
  simp (disch := omega) only [↓G_mod, ↓K_mod, ↓al_158 _]
  have hw : w = 0 ∨ w = 1 := by omega
  rcases hw with rfl | rfl
  · rw [if_pos rfl, b1]
    exact AnM_tell a3 _
  · rw [if_neg (by decide), b2]
    exact AnM_tell a3 _
theorem m_319 (tr : TR g) (r : RM g s) (hi : Iv N s) (hN : N < 800000) (m o t n : Int) (nb : rpW g s m o t n = 0 → ¬ ((rpR g s m o t n).2.1 0 = 0 ∧ (rpR g s m o t n).2.1 1 = 0)) : AnM g (qFallen g s m o t n) (MI X (d + 9) 319 [.inr (.inr 143), .inl m, .inl o, .inl t, .inl n] S0 (ov g)) := by
  rw [e_319]
  unfold qFallen
  rw [K_mod, oC_of (m_248 r _ _), if_b2i]
  by_cases h1 : two s m o
  case neg =>
    have hx : rpW g s m o t n = 1 := by unfold rpW; rw [if_pos (Or.inl h1)]
    rw [if_neg (show ¬ (0 ≤ m ∧ m < s 1 ∧ 0 ≤ o ∧ o < s 1 ∧ m ≠ o) from h1), if_pos (show (0 : Nat) < 1 by decide), K_mod, hx, if_neg (show ¬ ((1 : Int) = 0) by decide)]
    exact AnM_no (FN_rf g) 1
  rw [if_pos (show (0 ≤ m ∧ m < s 1 ∧ 0 ≤ o ∧ o < s 1 ∧ m ≠ o) from h1), K_mod, oC_of (m_316 (d := d + 7) tr m o t n h1)]
  by_cases h3 : rpW g s m o t n = 0
  case neg =>
    have hp : 0 < rpW g s m o t n := by have := rpW_nn g s m o t n; omega
    rw [if_pos hp, if_neg h3, K_mod]
    exact AnM_no (FN_rf g) _
  rw [if_neg (show ¬ 0 < rpW g s m o t n by omega), if_pos h3, K_mod]
  refine Ok_bind (m_317_q tr r hi hN m o t n h3) ?_
  rintro v g1 ⟨a1, a2, a3⟩
  rw [a1, if_b2i]
  by_cases h4 : (rpR g s m o t n).1 = true
  case neg =>
    rw [if_neg h4, if_neg h4, K_mod]
    exact AnM_no a3 7
  obtain ⟨b1, b2, b3⟩ := a2 h4
  have nb := nb h3
  obtain ⟨m0, m1, o0, o1, mo⟩ := id h1
  rw [if_pos h4, if_pos h4]
  simp (disch := omega) only [↓G_mod, ↓K_mod, b3]
  have on : ∀ x : Int, 0 ≤ x → orN x = (x, 0) := fun x hx => by unfold orN; rw [if_neg (by omega)]
  by_cases h5 : (rpR g s m o t n).2.1 0 = 0
  · rw [if_pos h5, if_neg (fun z => nb ⟨h5, z⟩), if_pos h5, ← on m m0]
    exact AnM_orN a3 _
  · rw [if_neg h5]
    by_cases h6 : (rpR g s m o t n).2.1 1 = 0
    · rw [if_pos h6, if_pos h6, ← on o o0]
      exact AnM_orN a3 _
    · rw [if_neg h6, if_neg h6, if_neg h5]
      exact AnM_orN a3 (-1)
/-- never both fall -/
theorem rpF_nb {w : Int → Int} : ∀ (k : Nat) (i : Int) (B : Int → Int) (x y : Int), IB B → B 6 + k < 1000000 → (∀ j, i ≤ j → j < i + k → 0 ≤ w j ∧ w j < 4) → ¬ (B 0 = 0 ∧ B 1 = 0) → ¬ ((rpF w k i B x y).2.1 0 = 0 ∧ (rpF w k i B x y).2.1 1 = 0)
  | 0, i, B, x, y, _, _, _, h => h
  | k + 1, i, B, x, y, hB, h6, hw, h => by
    rw [rpF_s]
    by_cases hh : B 0 = 0 ∨ B 1 = 0 ∨ ¬ caB B (w i)
    · rw [if_pos hh]; exact h
    · rw [if_neg hh]
      have hc : caB B (w i) := Decidable.byContradiction (fun z => hh (Or.inr (Or.inr z)))
      have wi := hw i (by omega) (by omega)
      have ha : w i = 0 ∨ w i = 1 ∨ w i = 2 ∨ w i = 3 := by omega
      have pr := pl_rng hB (w i) ha hc
      refine rpF_nb k (i + 1) _ _ _ (IB_pl hB ha hc (by omega)) (by omega) (fun j a b => hw j (by omega) (by omega)) ?_
      have hB' := id hB
      unfold IB at hB'
      have hm : B 6 % 2 = 0 ∨ B 6 % 2 = 1 := by omega
      obtain ⟨-, -, -, -, -, -, -, -, -, -, -, -, p1, p2⟩ := pr
      have n0 : ¬ B 0 = 0 := fun z => hh (Or.inl z)
      have n1 : ¬ B 1 = 0 := fun z => hh (Or.inr (Or.inl z))
      rcases hm with e | e
      · have := p1 e; omega
      · have := p2 e; omega
theorem rpR_nb (hi : Iv N s) (hN : N < 800000) (m o t n : Int) (h0 : rpW g s m o t n = 0) : ¬ ((rpR g s m o t n).2.1 0 = 0 ∧ (rpR g s m o t n).2.1 1 = 0) := by
  unfold rpW at h0
  by_cases z : ¬ two s m o ∨ n < 0 ∨ 20 < n
  · rw [if_pos z] at h0; omega
  rw [if_neg z] at h0
  have ht : two s m o := Decidable.byContradiction (fun y => z (Or.inl y))
  by_cases z2 : trN g t n ≠ 0
  · rw [if_pos z2] at h0; exact absurd h0 z2
  rw [if_neg z2] at h0
  have z3 : alW (fun i => rd g (4 + t) i) n.toNat 0 = true := by
    by_cases y : alW (fun i => rd g (4 + t) i) n.toNat 0 = true
    · exact y
    · rw [if_neg y] at h0; omega
  obtain ⟨y1, y2, y3, y4, y5, y6, y7, y8, y9⟩ := yR_all hi ht
  have IBy : IB (boN (yR s m o)) := IB_N y1 (by omega) (by have := ht.1; omega)
  obtain ⟨-, -, -, -, -, -, -, -, -, -, -, -, -, im, -⟩ := id hi
  have m1 := im m ht.1 ht.2.1
  have al := alW_in _ _ _ z3
  refine rpF_nb n.toNat 0 _ 0 0 IBy (by omega) (fun j a b => al j a (by omega)) (by omega)
end
