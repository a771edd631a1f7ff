/-! TRAYS of both, side by side: a pair of calls, one behind the other -/
/-- the class' call, then the model's in the memory behind it: one answer, one STATUS -/
def Pr (I : Mem → Prop) (oc : Option Rs) (om : Mem → Option Rs) : Prop := Ok (fun v g1 => Ok (fun w g2 => v = w ∧ rd g2 1 15 = rd g2 143 2 ∧ I g2) (om g1)) oc
theorem Pr_eq {I : Mem → Prop} {oc : Option Rs} {om : Mem → Option Rs} {v : Int} {g1 g2 : Mem} (e : oc = some (v, S0, ov g1)) (e2 : om g1 = some (v, S0, ov g2)) (h : rd g2 1 15 = rd g2 143 2) (k : I g2) : Pr I oc om := ⟨v, g1, e, v, g2, e2, rfl, h, k⟩
theorem Pr_mono {I J : Mem → Prop} {oc : Option Rs} {om : Mem → Option Rs} (h : Pr I oc om) (f : ∀ g, I g → J g) : Pr J oc om := Ok_mono h (fun _ _ k => Ok_mono k (fun _ _ q => ⟨q.1, q.2.1, f _ q.2.2⟩))
/-- the TRAYS of both -/
def TR (g : Mem) : Prop := ∀ t, 0 ≤ t → t < 4 → -1 ≤ rd g 8 t ∧ rd g 8 t ≤ 3 ∧ (rd g 8 t = -1 → rd g 147 t = -1) ∧ (rd g 8 t ≠ -1 → rd g 146 t = rd g 8 t ∧ rd g 147 t = rd g 9 t ∧ 0 ≤ rd g 9 t ∧ rd g 9 t ≤ 60 ∧ ∀ i, 0 ≤ i → i < rd g 9 t → rd g (4 + t) i = rd g 148 (60 * t + i))
/-- nothing but TRAYS and the STATUS is other -/
def FT (g g' : Mem) : Prop := ∀ c i, 0 ≤ c → 0 ≤ i → (c < 4 ∨ 9 < c) → (c ≠ 1 ∨ i ≠ 15) → (c < 146 ∨ 148 < c) → (c ≠ 143 ∨ i ≠ 2) → rd g' c i = rd g c i
theorem TR_fr {g g' : Mem} (h : TR g) (f : ∀ c i, ((4 ≤ c ∧ c ≤ 9) ∨ (146 ≤ c ∧ c ≤ 148)) → 0 ≤ i → rd g' c i = rd g c i) : TR g' := fun t h0 h4 => by
  obtain ⟨a, b, c, d⟩ := h t h0 h4
  rw [f 8 t (by omega) h0, f 147 t (by omega) h0, f 146 t (by omega) h0, f 9 t (by omega) h0]
  refine ⟨a, b, c, fun z => ?_⟩
  obtain ⟨d1, d2, d3, d4, d5⟩ := d z
  refine ⟨d1, d2, d3, d4, fun i i0 i1 => ?_⟩
  rw [f (4 + t) i (by omega) i0, f 148 (60 * t + i) (by omega) (by omega)]
  exact d5 i i0 i1
theorem st2_tr {g : Mem} (h : TR g) (x y : Int) : TR (wr (wr g 1 15 x) 143 2 y) := TR_fr h (fun c i hc h0 => by rw [rd_wr_ne _ _ _ _ (by omega) (by omega) (by omega), rd_wr_ne _ _ _ _ (by omega) (by omega) (by omega)])
theorem st2_ft (g : Mem) (x y : Int) : FT g (wr (wr g 1 15 x) 143 2 y) := fun c i h0 h1 h2 h3 h4 h5 => by
  have e1 : rd (wr (wr g 1 15 x) 143 2 y) c i = rd (wr g 1 15 x) c i := by
    by_cases z : c = 143
    · subst z; exact rd_wr_ix _ _ (by omega) h1 (by omega)
    · exact rd_wr_ne _ _ _ _ (by omega) h0 z
  rw [e1]
  by_cases z : c = 1
  · subst z; exact rd_wr_ix _ _ (by omega) h1 (by omega)
  · exact rd_wr_ne _ _ _ _ (by omega) h0 z
theorem st2_eq (g : Mem) (x : Int) : rd (wr (wr g 1 15 x) 143 2 x) 1 15 = rd (wr (wr g 1 15 x) 143 2 x) 143 2 := by
  rw [rd_wr_eq, rd_wr_ne _ _ _ _ (by omega) (by omega) (by omega), rd_wr_eq]
def trW (g : Mem) (t p : Int) : Int := if ¬ (0 ≤ t ∧ t < 4) then 1 else if rd g 8 t = -1 then 2 else if p < 0 ∨ rd g 9 t ≤ p then 3 else 0
def cuF (s v : Int) : Int := if s = 0 then w8 (w32 v) else if s = 1 then w16 (w32 v) else if s = 2 then w32 v else v
section
variable {X : Xs} {d : Nat} {g : Mem}
theorem c_103 (t : Int) (S : Sh) (h : Mem) : MI X d 103 [.inr (.inr 2), .inl t] S h = some (b2i (0 ≤ t ∧ t < 4), S, h) := by
  rw [e_103]; unfold b2i
  (repeat' split) <;> first | rfl | (exfalso; omega)
theorem c_104 (t : Int) (t0 : 0 ≤ t) (t4 : t < 4) : MI X d 104 [.inr (.inr 2), .inl t] S0 (ov g) = some (b2i (rd g 8 t = -1), S0, ov g) := by
  rw [e_104]; unfold b2i
  simp (disch := omega) only [↓G_trs, ↓al_8 _]
  split <;> rfl
theorem m_205 (t : Int) (S : Sh) (h : Mem) : MI X d 205 [.inl t] S h = some (b2i (0 ≤ t ∧ t < 4), S, h) := by
  rw [e_205]; unfold b2i
  (repeat' split) <;> first | rfl | (exfalso; omega)
theorem c_107 (t p : Int) : MI X (d + 1) 107 [.inr (.inr 2), .inl t, .inl p] S0 (ov g) = some (trW g t p, S0, ov g) := by
  rw [e_107, K_trs, oC_of (c_103 _ _ _), if_b2i]
  unfold trW
  by_cases h : 0 ≤ t ∧ t < 4
  case neg => rw [if_neg h, if_pos h]
  rw [if_pos h, if_neg (show ¬ ¬ (0 ≤ t ∧ t < 4) from fun z => z h), K_trs, oC_of (c_104 t h.1 h.2), if_b2i]
  by_cases e : rd g 8 t = -1
  · rw [if_pos e, if_pos e]
  rw [if_neg e, if_neg e]
  by_cases z : p < 0
  · rw [if_pos z, if_pos (Or.inl z)]
  rw [if_neg z]
  simp (disch := omega) only [↓G_trs, ↓al_9 _]
  by_cases y : p < rd g 9 t
  · rw [if_pos y, if_neg (by omega)]
  · rw [if_neg y, if_pos (by omega)]
theorem m_208 (r : TR g) (t p : Int) : MI X (d + 1) 208 [.inr (.inr 143), .inl t, .inl p] S0 (ov g) = some (trW g t p, S0, ov g) := by
  rw [e_208]
  unfold trW
  by_cases h : 0 ≤ t ∧ t < 4
  · rw [if_neg (show ¬ ¬ (0 ≤ t ∧ t < 4) from fun z => z h)]
    obtain ⟨r1, r2, r3, r4⟩ := r t h.1 h.2
    by_cases e : rd g 8 t = -1
    · have := r3 e
      simp (disch := omega) only [↓G_mod, ↓al_147 _, ↓e_205, ↓oK_some, ↓oC_some, ↓if_pos, ↓if_neg, rd_wr_eq, rd_wr_ne, rd_wr_ix, w32_id]
    · obtain ⟨d1, d2, d3, d4, d5⟩ := r4 e
      simp (disch := omega) only [↓G_mod, ↓al_147 _, ↓e_205, ↓oK_some, ↓oC_some, ↓if_pos, ↓if_neg, rd_wr_eq, rd_wr_ne, rd_wr_ix, w32_id]
      by_cases z : p < 0
      · simp (disch := omega) only [↓oK_some, ↓oC_some, ↓if_pos, ↓if_neg, rd_wr_eq, rd_wr_ne, rd_wr_ix, w32_id]
      · rw [if_neg z]
        by_cases y : p < rd g 147 t
        · rw [if_pos y, if_neg (by omega)]
        · rw [if_neg y, if_pos (by omega)]
  · rw [if_pos h]
    by_cases z : t < 0 <;> simp (disch := omega) only [↓G_mod, ↓e_205, ↓oK_some, ↓oC_some, ↓if_pos, ↓if_neg, rd_wr_eq, rd_wr_ne, rd_wr_ix, w32_id]
theorem c_112 (s v : Int) (S : Sh) (h : Mem) : MI X d 112 [.inl s, .inr (.inl v)] S h = some (cuF s v, S, h) := by
  rw [e_112]; unfold cuF
  (repeat' split) <;> rfl
theorem m_206 (s v : Int) (S : Sh) (h : Mem) : MI X d 206 [.inr (.inl v), .inl s] S h = some (cuF s v, S, h) := by
  rw [e_206]; unfold cuF
  (repeat' split) <;> rfl
theorem m_is0 {v : Int} (h : v ≠ 0) : MI X d 200 [.inr (.inr 143), .inl v] S0 (ov g) = some (0, S0, ov (wr g 143 2 v)) := by
  rw [m_200]; unfold b2i; rw [if_neg h]
theorem m_is1 : MI X d 200 [.inr (.inr 143), .inl 0] S0 (ov g) = some (1, S0, ov (wr g 143 2 0)) := by
  rw [m_200]; unfold b2i; rw [if_pos rfl]
theorem c_108_l (t : Int) (h0 : 0 ≤ t) (h4 : t < 4) : ∀ (k : Nat) (i : Int) (g : Mem), i + k = 60 → 0 ≤ i → Ok (fun _ g' => (∀ j, i ≤ j → j < 60 → rd g' (4 + t) j = 0) ∧ (∀ c j, 0 ≤ c → 0 ≤ j → (c ≠ 4 + t ∨ j < i) → rd g' c j = rd g c j)) (EI X d 108 17 [some (.inr (.inr 2)), some (.inl t), none, none, some (.inl i)] [] S0 (ov g)) := by
  intro k
  induction k with
  | zero =>
    intro i g hk hi
    rw [e_108_17, if_neg (by omega)]
    exact Ok_some ⟨fun j a b => by omega, fun _ _ _ _ _ => rfl⟩
  | succ k ih =>
    intro i g hk hi
    rw [e_108_17, if_pos (by omega)]
    simp (disch := omega) only [↓K_trs, ↓G_trs, ↓al_8 _, ↓as_8, ↓al_9 _, ↓as_9, ↓al_rows, ↓al_row, ↓as_row, w32_id]
    refine Ok_mono (ih (i + 1) _ (by omega) (by omega)) ?_
    rintro v g' ⟨q1, q2⟩
    refine ⟨fun j a b => ?_, fun c j a b e => ?_⟩
    · by_cases z : j = i
      · subst z
        rw [q2 _ _ (by omega) (by omega) (by omega), rd_wr_eq]
      · exact q1 j (by omega) b
    · rw [q2 c j a b (by omega)]
      by_cases z : c = 4 + t
      · subst z; exact rd_wr_ix _ _ hi b (by omega)
      · exact rd_wr_ne _ _ _ _ (by omega) a z
theorem c_108 (t s m : Int) (h0 : 0 ≤ t) (h4 : t < 4) : Ok (fun _ g' => rd g' 8 t = s ∧ rd g' 9 t = m ∧ (∀ j, 0 ≤ j → j < 60 → rd g' (4 + t) j = 0) ∧ (∀ c j, 0 ≤ c → 0 ≤ j → (c < 4 ∨ 9 < c) → rd g' c j = rd g c j) ∧ (∀ u j, 0 ≤ u → u < 4 → u ≠ t → 0 ≤ j → rd g' 8 u = rd g 8 u ∧ rd g' 9 u = rd g 9 u ∧ rd g' (4 + u) j = rd g (4 + u) j)) (MI X d 108 [.inr (.inr 2), .inl t, .inl s, .inl m] S0 (ov g)) := by
  rw [e_108]
  simp (disch := omega) only [↓K_trs, ↓G_trs, ↓al_8 _, ↓as_8, ↓al_9 _, ↓as_9, ↓al_rows, ↓al_row, ↓as_row]
  refine Ok_mono (c_108_l t h0 h4 60 0 _ (by omega) (by omega)) ?_
  rintro v g' ⟨q1, q2⟩
  refine ⟨?_, ?_, q1, fun c j a b e => ?_, fun u j a b e f => ⟨?_, ?_, ?_⟩⟩
  · rw [q2 _ _ (by omega) (by omega) (by omega), rd_wr_ne _ _ _ _ (by omega) (by omega) (by omega), rd_wr_eq]
  · rw [q2 _ _ (by omega) (by omega) (by omega), rd_wr_eq]
  · rw [q2 _ _ (by omega) (by omega) (by omega), rd_wr_ne _ _ _ _ (by omega) (by omega) (by omega), rd_wr_ne _ _ _ _ (by omega) (by omega) (by omega)]
  · rw [q2 _ _ (by omega) (by omega) (by omega), rd_wr_ne _ _ _ _ (by omega) (by omega) (by omega), rd_wr_ix _ _ (by omega) (by omega) (by omega)]
  · rw [q2 _ _ (by omega) (by omega) (by omega), rd_wr_ix _ _ (by omega) (by omega) (by omega), rd_wr_ne _ _ _ _ (by omega) (by omega) (by omega)]
  · rw [q2 _ _ (by omega) (by omega) (by omega), rd_wr_ne _ _ _ _ (by omega) (by omega) (by omega), rd_wr_ne _ _ _ _ (by omega) (by omega) (by omega)]
theorem m_207_l (t m : Int) (h0 : 0 ≤ t) (h4 : t < 4) (hm : m ≤ 60) : ∀ (k : Nat) (i : Int) (g : Mem), i + k = m → 0 ≤ i → Ok (fun v g' => v = 1 ∧ rd g' 143 2 = 0 ∧ (∀ j, i ≤ j → j < m → rd g' 148 (60 * t + j) = 0) ∧ (∀ c j, 0 ≤ c → 0 ≤ j → (c ≠ 143 ∨ j ≠ 2) → (c ≠ 148 ∨ j < 60 * t + i ∨ 60 * t + m ≤ j) → rd g' c j = rd g c j)) (EI X (d + 1) 207 49 [some (.inr (.inr 143)), some (.inl t), none, some (.inl m), some (.inl i)] [] S0 (ov g)) := by
  intro k
  induction k with
  | zero =>
    intro i g hk hi
    rw [e_207_49, if_neg (by omega)]
    simp (disch := omega) only [↓K_mod, ↓oC_of (m_is0 _), ↓oC_of m_is1, ↓oK_some, ↓oC_some, ↓if_pos, ↓if_neg, rd_wr_eq, rd_wr_ne, rd_wr_ix, w32_id]
    refine Ok_some ⟨rfl, rd_wr_eq _ _ _ _, fun j a b => by omega, fun c j a b e f => ?_⟩
    by_cases z : c = 143
    · subst z; exact rd_wr_ix _ _ (by omega) b (by omega)
    · exact rd_wr_ne _ _ _ _ (by omega) a z
  | succ k ih =>
    intro i g hk hi
    rw [e_207_49, if_pos (by omega)]
    simp (disch := omega) only [↓G_mod, w32_id, ↓as_148]
    refine Ok_mono (ih (i + 1) _ (by omega) (by omega)) ?_
    rintro v g' ⟨q0, q3, q1, q2⟩
    refine ⟨q0, q3, fun j a b => ?_, fun c j a b e f => ?_⟩
    · by_cases z : j = i
      · subst z
        rw [q2 _ _ (by omega) (by omega) (by omega) (by omega), rd_wr_eq]
      · exact q1 j (by omega) b
    · rw [q2 c j a b e (by omega)]
      by_cases z : c = 148
      · subst z; exact rd_wr_ix _ _ (by omega) b (by omega)
      · exact rd_wr_ne _ _ _ _ (by omega) a z
theorem p_tray (r : TR g) (t s m : Int) : Pr (fun g' => TR g' ∧ FT g g') (MI X (d + 2) 131 [.inr (.inr 1), .inl t, .inl s, .inl m] S0 (ov g)) (fun g1 => MI X (d + 2) 207 [.inr (.inr 143), .inl t, .inl s, .inl m] S0 (ov g1)) := by
  by_cases hc : (0 ≤ t ∧ t < 4) ∧ (0 ≤ s ∧ s ≤ 3) ∧ (0 ≤ m ∧ m ≤ 60)
  case neg =>
    have no : t < 0 ∨ (4 ≤ t ∧ ¬ t < 0) ∨ ((0 ≤ t ∧ t < 4) ∧ s < 0) ∨ ((0 ≤ t ∧ t < 4) ∧ 3 < s) ∨ ((0 ≤ t ∧ t < 4) ∧ (0 ≤ s ∧ s ≤ 3) ∧ m < 0) ∨ ((0 ≤ t ∧ t < 4) ∧ (0 ≤ s ∧ s ≤ 3) ∧ 60 < m) := by omega
    refine Pr_eq (v := 0) (g1 := wr g 1 15 1) (g2 := wr (wr g 1 15 1) 143 2 1) ?_ ?_ (st2_eq g 1) ⟨st2_tr r _ _, st2_ft _ _ _⟩
    · rw [e_131]
      rcases no with h | h | h | h | h | h <;> simp (disch := omega) only [↓K_top, ↓G_top, ↓P_top, ↓K_trs, ↓e_103, ↓oC_of (c_185 _), ↓oK_some, ↓oC_some, ↓if_pos, ↓if_neg, rd_wr_eq, rd_wr_ne, rd_wr_ix, w32_id]
    · rw [e_207]
      rcases no with h | h | h | h | h | h <;> simp (disch := omega) only [↓K_mod, ↓e_205, ↓oC_of (m_is0 _), ↓oC_of m_is1, ↓oK_some, ↓oC_some, ↓if_pos, ↓if_neg, rd_wr_eq, rd_wr_ne, rd_wr_ix, w32_id]
  obtain ⟨⟨t0, t1⟩, ⟨s0, s1⟩, m0, m1⟩ := hc
  have hA : Ok (fun v g' => v = 1 ∧ rd g' 1 15 = 0 ∧ rd g' 8 t = s ∧ rd g' 9 t = m ∧ (∀ j, 0 ≤ j → j < 60 → rd g' (4 + t) j = 0) ∧ (∀ c j, 0 ≤ c → 0 ≤ j → (c < 4 ∨ 9 < c) → (c ≠ 1 ∨ j ≠ 15) → rd g' c j = rd g c j) ∧ (∀ u j, 0 ≤ u → u < 4 → u ≠ t → 0 ≤ j → rd g' 8 u = rd g 8 u ∧ rd g' 9 u = rd g 9 u ∧ rd g' (4 + u) j = rd g (4 + u) j)) (MI X (d + 2) 131 [.inr (.inr 1), .inl t, .inl s, .inl m] S0 (ov g)) := by
    rw [e_131]
    simp (disch := omega) only [↓K_top, ↓G_top, ↓P_top, ↓K_trs, ↓e_103, ↓oK_some, ↓oC_some, ↓if_pos, ↓if_neg, rd_wr_eq, rd_wr_ne, rd_wr_ix, w32_id]
    refine Ok_bind (c_108 t s m t0 t1) ?_
    rintro v g1 ⟨a1, a2, a3, a4, a5⟩
    simp (disch := omega) only [↓K_top, ↓G_top, ↓P_top, ↓oC_of c_184, ↓oK_some, ↓oC_some, ↓if_pos, ↓if_neg, rd_wr_eq, rd_wr_ne, rd_wr_ix, w32_id]
    refine Ok_some ⟨rfl, rd_wr_eq _ _ _ _, ?_, ?_, fun j b c => ?_, fun c j b e f k => ?_, fun u j b c e f => ⟨?_, ?_, ?_⟩⟩
    · rw [rd_wr_ne _ _ _ _ (by omega) (by omega) (by omega)]; exact a1
    · rw [rd_wr_ne _ _ _ _ (by omega) (by omega) (by omega)]; exact a2
    · rw [rd_wr_ne _ _ _ _ (by omega) (by omega) (by omega)]; exact a3 j b c
    · by_cases z : c = 1
      · subst z; rw [rd_wr_ix _ _ (by omega) e (by omega)]; exact a4 _ _ b e f
      · rw [rd_wr_ne _ _ _ _ (by omega) b z]; exact a4 _ _ b e f
    · rw [rd_wr_ne _ _ _ _ (by omega) (by omega) (by omega)]; exact (a5 u 0 b c e (by omega)).1
    · rw [rd_wr_ne _ _ _ _ (by omega) (by omega) (by omega)]; exact (a5 u 0 b c e (by omega)).2.1
    · rw [rd_wr_ne _ _ _ _ (by omega) (by omega) (by omega)]; exact (a5 u j b c e f).2.2
  refine Ok_mono hA ?_
  rintro v g1 ⟨rfl, b0, b1, b2, b3, b4, b5⟩
  have hM : Ok (fun v g' => v = 1 ∧ rd g' 143 2 = 0 ∧ rd g' 146 t = s ∧ rd g' 147 t = m ∧ (∀ j, 0 ≤ j → j < m → rd g' 148 (60 * t + j) = 0) ∧ (∀ c j, 0 ≤ c → 0 ≤ j → (c ≠ 143 ∨ j ≠ 2) → (c < 146 ∨ 148 < c) → rd g' c j = rd g1 c j) ∧ (∀ u j, 0 ≤ u → u < 4 → u ≠ t → 0 ≤ j → j < 60 → rd g' 146 u = rd g1 146 u ∧ rd g' 147 u = rd g1 147 u ∧ rd g' 148 (60 * u + j) = rd g1 148 (60 * u + j))) (MI X (d + 2) 207 [.inr (.inr 143), .inl t, .inl s, .inl m] S0 (ov g1)) := by
    rw [e_207]
    simp (disch := omega) only [↓G_mod, ↓e_205, ↓as_146, ↓as_147, ↓oK_some, ↓oC_some, ↓if_pos, ↓if_neg, rd_wr_eq, rd_wr_ne, rd_wr_ix, w32_id]
    refine Ok_mono (m_207_l t m t0 t1 m1 m.toNat 0 _ (by omega) (by omega)) ?_
    rintro v g' ⟨rfl, q3, q1, q2⟩
    refine ⟨rfl, q3, ?_, ?_, q1, fun c j a b e f => ?_, fun u j a b e f k => ⟨?_, ?_, ?_⟩⟩
    · rw [q2 _ _ (by omega) (by omega) (by omega) (by omega), rd_wr_ne _ _ _ _ (by omega) (by omega) (by omega), rd_wr_eq]
    · rw [q2 _ _ (by omega) (by omega) (by omega) (by omega), rd_wr_eq]
    · rw [q2 _ _ (by omega) (by omega) e (by omega), rd_wr_ne _ _ _ _ (by omega) (by omega) (by omega), rd_wr_ne _ _ _ _ (by omega) (by omega) (by omega)]
    · rw [q2 _ _ (by omega) (by omega) (by omega) (by omega), rd_wr_ne _ _ _ _ (by omega) (by omega) (by omega), rd_wr_ix _ _ (by omega) (by omega) (by omega)]
    · rw [q2 _ _ (by omega) (by omega) (by omega) (by omega), rd_wr_ix _ _ (by omega) (by omega) (by omega), rd_wr_ne _ _ _ _ (by omega) (by omega) (by omega)]
    · rw [q2 _ _ (by omega) (by omega) (by omega) (by omega), rd_wr_ne _ _ _ _ (by omega) (by omega) (by omega), rd_wr_ne _ _ _ _ (by omega) (by omega) (by omega)]
  refine Ok_mono hM ?_
  rintro w g2 ⟨rfl, c0, c1, c2, c3, c4, c5⟩
  refine ⟨rfl, ?_, fun u u0 u4 => ?_, fun c i a b e f k l => ?_⟩
  · rw [c4 _ _ (by omega) (by omega) (by omega) (by omega), b0, c0]
  · by_cases z : u = t
    · subst z
      rw [c4 8 _ (by omega) (by omega) (by omega) (by omega), c4 9 _ (by omega) (by omega) (by omega) (by omega), b1, b2, c1, c2]
      refine ⟨by omega, by omega, fun z => by omega, fun _ => ⟨rfl, rfl, m0, m1, fun i i0 i1 => ?_⟩⟩
      rw [c4 _ _ (by omega) (by omega) (by omega) (by omega), b3 i i0 (by omega), c3 i i0 i1]
    · obtain ⟨r1, r2, r3, r4⟩ := r u u0 u4
      obtain ⟨x1, x2, -⟩ := b5 u 0 u0 u4 z (by omega)
      obtain ⟨y1, y2, -⟩ := c5 u 0 u0 u4 z (by omega) (by omega)
      rw [c4 8 _ (by omega) (by omega) (by omega) (by omega), c4 9 _ (by omega) (by omega) (by omega) (by omega), x1, x2, y1, y2, b4 _ _ (by omega) u0 (by omega) (by omega), b4 _ _ (by omega) u0 (by omega) (by omega)]
      refine ⟨r1, r2, r3, fun h => ?_⟩
      obtain ⟨d1, d2, d3, d4, d5⟩ := r4 h
      refine ⟨d1, d2, d3, d4, fun i i0 i1 => ?_⟩
      rw [c4 _ _ (by omega) (by omega) (by omega) (by omega), (b5 u i u0 u4 z i0).2.2, (c5 u i u0 u4 z i0 (by omega)).2.2, b4 _ _ (by omega) (by omega) (by omega) (by omega)]
      exact d5 i i0 i1
  · rw [c4 _ _ a b l k]; exact b4 _ _ a b e f
end
