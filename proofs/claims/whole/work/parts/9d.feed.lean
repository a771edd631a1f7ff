/-! feed of both -/
/-- four bytes laid at T -/
def ap (T v : Int) (f : Int → Int) : Int → Int := fun i => if T ≤ i ∧ i < T + 4 then w8 (w8 (am_shr v (24 - 8 * (i - T)))) else f i
theorem w8_w8 (x : Int) : w8 (w8 x) = w8 x := by
  have h := w8_rng x
  generalize w8 x = y at h
  unfold w8
  rw [Int.bmod_def]
  split <;> omega
section
variable {X : Xs} {d : Nat} {N : Int} {g : Mem}
theorem c_187_l (v : Int) : ∀ (k : Nat) (T : Int) (g : Mem), rd g 1 14 = T → 0 ≤ T → T + k ≤ 900 → k ≤ 4 → ∃ g', EI X d 187 3 [some (.inr (.inr 1)), some (.inl v), some (.inl (8 * k - 8))] [] S0 (ov g) = some (0, S0, ov g') ∧ rd g' 1 14 = T + k ∧ (∀ i, 0 ≤ i → rd g' 10 i = if T ≤ i ∧ i < T + k then w8 (w8 (am_shr v (8 * k - 8 - 8 * (i - T)))) else rd g 10 i) ∧ (∀ c i, 0 ≤ c → 0 ≤ i → c ≠ 10 → (c ≠ 1 ∨ i ≠ 14) → rd g' c i = rd g c i) := by
  intro k
  induction k with
  | zero =>
    intro T g hT T0 T1 k4
    refine ⟨g, ?_, by omega, fun i i0 => by rw [if_neg (by omega)], fun _ _ _ _ _ _ => rfl⟩
    rw [e_187_3, if_pos (by omega)]
  | succ k ih =>
    intro T g hT T0 T1 k4
    have e14 : rd (wr g 10 T (w8 (w8 (am_shr v (8 * ((k + 1 : Nat) : Int) - 8))))) 1 14 = T := by rw [rd_wr_ne _ _ _ _ (by omega) (by omega) (by omega)]; exact hT
    obtain ⟨g', e, q1, q2, q3⟩ := ih (T + 1) (wr (wr g 10 T (w8 (w8 (am_shr v (8 * ((k + 1 : Nat) : Int) - 8))))) 1 14 (T + 1)) (rd_wr_eq _ _ _ _) (by omega) (by omega) (by omega)
    refine ⟨g', ?_, by omega, fun i i0 => ?_, fun c i c0 i0 h1 h2 => ?_⟩
    · rw [e_187_3, if_neg (by omega)]
      simp (disch := omega) only [↓G_top, ↓P_top, hT, ↓if_pos, ↓as_10, e14, w32_id]
      rw [show 8 * ((k + 1 : Nat) : Int) - 8 + -8 = 8 * (k : Int) - 8 by omega]
      exact e
    · rw [q2 i i0]
      by_cases z : T + 1 ≤ i ∧ i < T + 1 + k
      · rw [if_pos z, if_pos (by omega), show 8 * (k : Int) - 8 - 8 * (i - (T + 1)) = 8 * ((k + 1 : Nat) : Int) - 8 - 8 * (i - T) by omega]
      · rw [if_neg z, rd_wr_ne _ _ _ _ (by omega) (by omega) (by omega)]
        by_cases y : i = T
        · subst y
          rw [rd_wr_eq, if_pos (by omega), show 8 * ((k + 1 : Nat) : Int) - 8 - 8 * (i - i) = 8 * ((k + 1 : Nat) : Int) - 8 by omega]
        · rw [rd_wr_ix _ _ T0 i0 y, if_neg (by omega)]
    · rw [q3 c i c0 i0 h1 h2]
      by_cases z : c = 1
      · subst z; rw [rd_wr_ix _ _ (by omega) i0 (by omega), rd_wr_ne _ _ _ _ (by omega) (by omega) (by omega)]
      · rw [rd_wr_ne _ _ _ _ (by omega) c0 z, rd_wr_ne _ _ _ _ (by omega) c0 h1]
theorem m_214_l (v : Int) : ∀ (k : Nat) (T : Int) (g : Mem), rd g 143 10 = T → 0 ≤ T → T + k ≤ 900 → k ≤ 4 → ∃ g', EI X d 214 3 [some (.inr (.inr 143)), some (.inl v), some (.inl (8 * k - 8))] [] S0 (ov g) = some (0, S0, ov g') ∧ rd g' 143 10 = T + k ∧ (∀ i, 0 ≤ i → rd g' 149 i = if T ≤ i ∧ i < T + k then w8 (w8 (am_shr v (8 * k - 8 - 8 * (i - T)))) else rd g 149 i) ∧ (∀ c i, 0 ≤ c → 0 ≤ i → c ≠ 149 → (c ≠ 143 ∨ i ≠ 10) → rd g' c i = rd g c i) := by
  intro k
  induction k with
  | zero =>
    intro T g hT T0 T1 k4
    refine ⟨g, ?_, by omega, fun i i0 => by rw [if_neg (by omega)], fun _ _ _ _ _ _ => rfl⟩
    rw [e_214_3, if_pos (by omega)]
  | succ k ih =>
    intro T g hT T0 T1 k4
    have e14 : rd (wr g 149 T (w8 (w8 (am_shr v (8 * ((k + 1 : Nat) : Int) - 8))))) 143 10 = T := by rw [rd_wr_ne _ _ _ _ (by omega) (by omega) (by omega)]; exact hT
    obtain ⟨g', e, q1, q2, q3⟩ := ih (T + 1) (wr (wr g 149 T (w8 (w8 (am_shr v (8 * ((k + 1 : Nat) : Int) - 8))))) 143 10 (T + 1)) (rd_wr_eq _ _ _ _) (by omega) (by omega) (by omega)
    refine ⟨g', ?_, by omega, fun i i0 => ?_, fun c i c0 i0 h1 h2 => ?_⟩
    · rw [e_214_3, if_neg (by omega)]
      simp (disch := omega) only [↓G_mod, ↓P_mod, hT, ↓as_149, e14, w32_id]
      rw [show 8 * ((k + 1 : Nat) : Int) - 8 + -8 = 8 * (k : Int) - 8 by omega]
      exact e
    · rw [q2 i i0]
      by_cases z : T + 1 ≤ i ∧ i < T + 1 + k
      · rw [if_pos z, if_pos (by omega), show 8 * (k : Int) - 8 - 8 * (i - (T + 1)) = 8 * ((k + 1 : Nat) : Int) - 8 - 8 * (i - T) by omega]
      · rw [if_neg z, rd_wr_ne _ _ _ _ (by omega) (by omega) (by omega)]
        by_cases y : i = T
        · subst y
          rw [rd_wr_eq, if_pos (by omega), show 8 * ((k + 1 : Nat) : Int) - 8 - 8 * (i - i) = 8 * ((k + 1 : Nat) : Int) - 8 by omega]
        · rw [rd_wr_ix _ _ T0 i0 y, if_neg (by omega)]
    · rw [q3 c i c0 i0 h1 h2]
      by_cases z : c = 143
      · subst z; rw [rd_wr_ix _ _ (by omega) i0 (by omega), rd_wr_ne _ _ _ _ (by omega) (by omega) (by omega)]
      · rw [rd_wr_ne _ _ _ _ (by omega) c0 z, rd_wr_ne _ _ _ _ (by omega) c0 h1]
/-- the class' tape is f, T long -/
def TC (g0 : Mem) (T : Int) (f : Int → Int) (g : Mem) : Prop := rd g 1 14 = T ∧ (∀ i, 0 ≤ i → rd g 10 i = f i) ∧ (∀ c i, 0 ≤ c → 0 ≤ i → c ≠ 10 → (c ≠ 1 ∨ i ≠ 14) → rd g c i = rd g0 c i)
def TM (g0 : Mem) (T : Int) (f : Int → Int) (g : Mem) : Prop := rd g 143 10 = T ∧ (∀ i, 0 ≤ i → rd g 149 i = f i) ∧ (∀ c i, 0 ≤ c → 0 ≤ i → c ≠ 149 → (c ≠ 143 ∨ i ≠ 10) → rd g c i = rd g0 c i)
theorem c_187 {g0 : Mem} {T : Int} {f : Int → Int} (h : TC g0 T f g) (T0 : 0 ≤ T) (T1 : T + 4 ≤ 900) (v : Int) : Ok (fun _ g' => TC g0 (T + 4) (ap T v f) g') (MI X d 187 [.inr (.inr 1), .inl v] S0 (ov g)) := by
  obtain ⟨h1, h2, h3⟩ := h
  obtain ⟨g', e, q1, q2, q3⟩ := c_187_l (X := X) (d := d) v 4 T g h1 T0 T1 (by omega)
  rw [e_187]
  refine ⟨0, g', e, q1, fun i i0 => ?_, fun c i a b x y => (q3 c i a b x y).trans (h3 c i a b x y)⟩
  rw [q2 i i0]
  unfold ap
  by_cases z : T ≤ i ∧ i < T + 4
  · rw [if_pos (show T ≤ i ∧ i < T + ((4 : Nat) : Int) from z), if_pos z]
    rfl
  · rw [if_neg (show ¬ (T ≤ i ∧ i < T + ((4 : Nat) : Int)) from z), if_neg z]; exact h2 i i0
theorem m_214 {g0 : Mem} {T : Int} {f : Int → Int} (h : TM g0 T f g) (T0 : 0 ≤ T) (T1 : T + 4 ≤ 900) (v : Int) : Ok (fun _ g' => TM g0 (T + 4) (ap T v f) g') (MI X d 214 [.inr (.inr 143), .inl v] S0 (ov g)) := by
  obtain ⟨h1, h2, h3⟩ := h
  obtain ⟨g', e, q1, q2, q3⟩ := m_214_l (X := X) (d := d) v 4 T g h1 T0 T1 (by omega)
  rw [e_214]
  refine ⟨0, g', e, q1, fun i i0 => ?_, fun c i a b x y => (q3 c i a b x y).trans (h3 c i a b x y)⟩
  rw [q2 i i0]
  unfold ap
  by_cases z : T ≤ i ∧ i < T + 4
  · rw [if_pos (show T ≤ i ∧ i < T + ((4 : Nat) : Int) from z), if_pos z]
    rfl
  · rw [if_neg (show ¬ (T ≤ i ∧ i < T + ((4 : Nat) : Int)) from z), if_neg z]; exact h2 i i0
def okT (f f' : Int → Int) (T : Int) : Prop := ∀ i, 0 ≤ i → i < T → f i = f' i ∧ -128 ≤ f i ∧ f i < 128
theorem okT_ap {f f' : Int → Int} {T : Int} (h : okT f f' T) (v : Int) : okT (ap T v f) (ap T v f') (T + 4) := fun i i0 i1 => by
  unfold ap
  by_cases z : T ≤ i ∧ i < T + 4
  · rw [if_pos z, if_pos z]; exact ⟨rfl, w8_rng _⟩
  · rw [if_neg z, if_neg z]; exact h i i0 (by omega)
theorem IV_tape {g' : Mem} (iv : IV N g) (f : ∀ c i, 0 ≤ c → 0 ≤ i → c ≠ 10 → c ≠ 149 → (c ≠ 1 ∨ i ≠ 14) → (c ≠ 143 ∨ i ≠ 10) → rd g' c i = rd g c i) (hT : TP g') : IV N g' := by
  obtain ⟨⟨s, v1⟩, v2, v3, v4, v5, v6, v7, v8, v9⟩ := iv
  have k : ∀ c i, 0 ≤ i → 0 ≤ c → c ≠ 10 → c ≠ 149 → (c ≠ 1 ∨ i ≠ 14) → (c ≠ 143 ∨ i ≠ 10) → rd g' c i = rd g c i := fun c i a b => f c i b a
  exact ⟨⟨s, DS_fr v1 (fun c i x y z => k c i z (by omega) (by omega) (by omega) (by omega) (by omega)) (fun i x y => k _ _ (by omega) (by omega) (by omega) (by omega) (by omega) (by omega)) (fun i x y => k _ _ (by omega) (by omega) (by omega) (by omega) (by omega) (by omega))⟩, TR_fr v2 (fun c i h a => k c i a (by omega) (by omega) (by omega) (by omega) (by omega)), hT, by rw [k 1 15 (by omega) (by omega) (by omega) (by omega) (by omega) (by omega), k 143 2 (by omega) (by omega) (by omega) (by omega) (by omega) (by omega)]; exact v4, FA_fr v5 (fun c i b => k c i (by omega) (by omega) (by omega) (by omega) (by omega) (by omega)), FR2_fr v6 (fun c i b => k c i (by omega) (by omega) (by omega) (by omega) (by omega) (by omega)), MK_fr v7 (Int.le_refl _) (fun c i a b => k c i a (by omega) (by omega) (by omega) (by omega) (by omega)), LV_fr v8 (fun c i a b => k c i a (by omega) (by omega) (by omega) (by omega) (by omega)), RW_fr v9 (fun i a => k 15 i a (by omega) (by omega) (by omega) (by omega) (by omega))⟩
theorem p_feed (iv : IV N g) (a b c e h : Int) : Pr (IV N) (MI X (d + 40) 135 [.inr (.inr 1), .inl a, .inl b, .inl c, .inl e, .inl h] S0 (ov g)) (fun g1 => MI X (d + 40) 213 [.inr (.inr 143), .inl a, .inl b, .inl c, .inl e, .inl h] S0 (ov g1)) := by
  obtain ⟨t1, t2, t3, t4⟩ := iv.2.2.1
  generalize hT : rd g 1 14 = T at *
  by_cases h9 : 900 < T + 20
  · refine Pr_eq (v := -1) (g1 := g) (g2 := g) ?_ ?_ iv.2.2.2.1 iv
    · rw [e_135]
      simp (disch := omega) only [↓G_top, hT, w32_id, ↓if_pos]
    · rw [e_213]
      simp (disch := omega) only [↓G_mod, ← t1, w32_id, ↓if_pos]
  have hC : Ok (fun v g1 => v = T + 20 ∧ TC g (T + 4 + 4 + 4 + 4 + 4) (ap (T + 4 + 4 + 4 + 4) h (ap (T + 4 + 4 + 4) e (ap (T + 4 + 4) c (ap (T + 4) b (ap T a (fun i => rd g 10 i)))))) g1) (MI X (d + 40) 135 [.inr (.inr 1), .inl a, .inl b, .inl c, .inl e, .inl h] S0 (ov g)) := by
    rw [e_135]
    simp (disch := omega) only [↓G_top, hT, w32_id, ↓if_neg, ↓K_top]
    refine Ok_bind (c_187 (g0 := g) (f := fun i => rd g 10 i) ⟨hT, fun _ _ => rfl, fun _ _ _ _ _ _ => rfl⟩ t2 (by omega) a) ?_
    rintro v1 g1 q1
    rw [K_top]
    refine Ok_bind (c_187 q1 (by omega) (by omega) b) ?_
    rintro v2 g2 q2
    rw [K_top]
    refine Ok_bind (c_187 q2 (by omega) (by omega) c) ?_
    rintro v3 g3 q3
    rw [K_top]
    refine Ok_bind (c_187 q3 (by omega) (by omega) e) ?_
    rintro v4 g4 q4
    rw [K_top]
    refine Ok_bind (c_187 q4 (by omega) (by omega) h) ?_
    rintro v5 g5 q5
    simp only [↓G_top, q5.1]
    exact Ok_some ⟨by omega, q5⟩
  refine Ok_mono hC ?_
  rintro v g1 ⟨rfl, a1, a2, a3⟩
  have e10 : rd g1 143 10 = T := by rw [a3 _ _ (by omega) (by omega) (by omega) (by omega)]; exact t1.symm
  have hM : Ok (fun v g2 => v = T + 20 ∧ TM g1 (T + 4 + 4 + 4 + 4 + 4) (ap (T + 4 + 4 + 4 + 4) h (ap (T + 4 + 4 + 4) e (ap (T + 4 + 4) c (ap (T + 4) b (ap T a (fun i => rd g1 149 i)))))) g2) (MI X (d + 40) 213 [.inr (.inr 143), .inl a, .inl b, .inl c, .inl e, .inl h] S0 (ov g1)) := by
    rw [e_213]
    simp (disch := omega) only [↓G_mod, e10, w32_id, ↓if_neg, ↓K_mod]
    refine Ok_bind (m_214 (g0 := g1) (f := fun i => rd g1 149 i) ⟨e10, fun _ _ => rfl, fun _ _ _ _ _ _ => rfl⟩ t2 (by omega) a) ?_
    rintro v1 g1' q1
    rw [K_mod]
    refine Ok_bind (m_214 q1 (by omega) (by omega) b) ?_
    rintro v2 g2 q2
    rw [K_mod]
    refine Ok_bind (m_214 q2 (by omega) (by omega) c) ?_
    rintro v3 g3 q3
    rw [K_mod]
    refine Ok_bind (m_214 q3 (by omega) (by omega) e) ?_
    rintro v4 g4 q4
    rw [K_mod]
    refine Ok_bind (m_214 q4 (by omega) (by omega) h) ?_
    rintro v5 g5 q5
    simp only [↓G_mod, q5.1]
    exact Ok_some ⟨by omega, q5⟩
  refine Ok_mono hM ?_
  rintro w g2 ⟨rfl, b1, b2, b3⟩
  have f : ∀ c i, 0 ≤ c → 0 ≤ i → c ≠ 10 → c ≠ 149 → (c ≠ 1 ∨ i ≠ 14) → (c ≠ 143 ∨ i ≠ 10) → rd g2 c i = rd g c i := fun c i x y z w u r => (b3 c i x y w r).trans (a3 c i x y z u)
  have hs : rd g2 1 15 = rd g2 143 2 := by rw [f 1 15 (by omega) (by omega) (by omega) (by omega) (by omega) (by omega), f 143 2 (by omega) (by omega) (by omega) (by omega) (by omega) (by omega)]; exact iv.2.2.2.1
  have ok0 : okT (fun i => rd g 10 i) (fun i => rd g1 149 i) T := fun i i0 i1 => by
    have := t4 i i0 i1
    dsimp only
    rw [a3 149 i (by omega) i0 (by omega) (by omega)]
    exact this
  have ok := okT_ap (okT_ap (okT_ap (okT_ap (okT_ap ok0 a) b) c) e) h
  have c14 : rd g2 1 14 = T + 20 := by rw [b3 _ _ (by omega) (by omega) (by omega) (by omega), a1]; omega
  refine ⟨rfl, hs, IV_tape iv f ⟨?_, ?_, ?_, fun i i0 i1 => ?_⟩⟩
  · rw [c14, b1]; omega
  · rw [c14]; omega
  · rw [c14]; omega
  · rw [c14] at i1
    rw [b3 10 i (by omega) i0 (by omega) (by omega), a2 i i0, b2 i i0]
    exact ok i i0 (by omega)
end
