/-! hurts of both: an ORDER that a TRAY tells -/
theorem w32_add (x y : Int) : w32 (w32 x + y) = w32 (x + y) := by
  unfold w32
  simp only [Int.bmod_def]
  (repeat' split) <;> omega
theorem lcm_lt (a b : Int) {A : Type} (p q : A) : (if am_lcmp a b < 0 then p else q) = if a < b then p else q := by
  unfold am_lcmp
  by_cases h : a < b
  · rw [if_pos h, if_pos h]; exact if_pos (by decide)
  · rw [if_neg h, if_neg h]
    by_cases e : a = b
    · rw [if_pos e]; exact if_neg (by decide)
    · rw [if_neg e]; exact if_neg (by decide)
/-- each number from i on is a man that isn't met yet -/
def vaT (s w : Int → Int) : Nat → Int → Int → Bool
  | 0, _, _ => true
  | k + 1, i, T => decide (0 ≤ w i ∧ w i < s 1 ∧ bi T (w i) = 0) && vaT s w k (i + 1) (oI T (w i))
theorem vaT_s (s w : Int → Int) (k : Nat) (i T : Int) : vaT s w (k + 1) i T = (decide (0 ≤ w i ∧ w i < s 1 ∧ bi T (w i) = 0) && vaT s w k (i + 1) (oI T (w i))) := rfl
/-- what all together are hurt, one behind the other; and by pairs -/
def hrA (s w : Int → Int) : Nat → Int → Int → Int
  | 0, _, _ => 0
  | k + 1, i, T => huF s T (w i) (s 1).toNat 0 + hrA s w k (i + 1) (oI T (w i))
def hrP (s w : Int → Int) : Nat → Int → Int
  | 0, _ => 0
  | k + 1, i => su (fun j => mn s (w i) (4 + w j)) k (i + 1) + hrP s w k (i + 1)
theorem su_add (f f2 : Int → Int) : ∀ (k : Nat) (m : Int), su (fun i => f i + f2 i) k m = su f k m + su f2 k m
  | 0, _ => rfl
  | k + 1, m => by
    show f m + f2 m + su (fun i => f i + f2 i) k (m + 1) = f m + su f k (m + 1) + (f2 m + su f2 k (m + 1))
    rw [su_add f f2 k (m + 1)]
    omega
theorem vaT_in (s w : Int → Int) (h6 : s 1 ≤ 6) : ∀ (k : Nat) (i T : Int), 0 ≤ T → T < 64 → vaT s w k i T = true → ∀ j, i ≤ j → j < i + k → 0 ≤ w j ∧ w j < s 1 ∧ bi T (w j) = 0
  | 0, i, T, _, _, _, j, h1, h2 => by omega
  | k + 1, i, T, T0, T1, h, j, h1, h2 => by
    rw [vaT_s, Bool.and_eq_true, decide_eq_true_eq] at h
    obtain ⟨⟨a, b, c⟩, h⟩ := h
    by_cases e : j = i
    · rw [e]; exact ⟨a, b, c⟩
    · have ob := oI_b (T := T) (t := w i) (K := 6) (by omega) T0 (by omega) a (by omega)
      have q := vaT_in s w h6 k (i + 1) (oI T (w i)) ob.1 (by omega) h j (by omega) (by omega)
      refine ⟨q.1, q.2.1, ?_⟩
      have z := bi_oI T0 T1 a (show w i < 6 by omega) q.1 (show w j < 6 by omega)
      rw [q.2.2] at z
      by_cases y : w j = w i
      · rw [if_pos y] at z; omega
      · rw [if_neg y] at z; exact z.symm
theorem hr_eq (s w : Int → Int) (h0 : 0 ≤ s 1) (h6 : s 1 ≤ 6) : ∀ (k : Nat) (i T : Int), 0 ≤ T → T < 64 → vaT s w k i T = true → hrA s w k i T = su (fun j => huF s T (w j) (s 1).toNat 0) k i + hrP s w k i
  | 0, i, T, _, _, _ => rfl
  | k + 1, i, T, T0, T1, h => by
    have hh := h
    rw [vaT_s, Bool.and_eq_true, decide_eq_true_eq] at h
    obtain ⟨⟨a, b, c⟩, h⟩ := h
    have ob := oI_b (T := T) (t := w i) (K := 6) (by omega) T0 (by omega) a (by omega)
    have ih := hr_eq s w h0 h6 k (i + 1) (oI T (w i)) ob.1 (by omega) h
    have e : su (fun j => huF s (oI T (w i)) (w j) (s 1).toNat 0) k (i + 1) = su (fun j => huF s T (w j) (s 1).toNat 0) k (i + 1) + su (fun j => mn s (w i) (4 + w j)) k (i + 1) := by
      rw [← su_add]
      exact su_congr _ _ _ _ (fun j x y => huF_add s (w j) T0 T1 a c (s 1).toNat 0 (by omega) (by omega) a (by omega))
    show huF s T (w i) (s 1).toNat 0 + hrA s w k (i + 1) (oI T (w i)) = (huF s T (w i) (s 1).toNat 0 + su (fun j => huF s T (w j) (s 1).toNat 0) k (i + 1)) + (su (fun j => mn s (w i) (4 + w j)) k (i + 1) + hrP s w k (i + 1))
    rw [ih, e]
    omega
theorem huF_0 (s : Int → Int) (m : Int) : ∀ (k : Nat) (i : Int), 0 ≤ i → i + k ≤ 6 → huF s 0 m k i = 0
  | 0, _, _, _ => rfl
  | k + 1, i, i0, i1 => by
    have b0 : ∀ i : Fin 6, bi 0 (i.val : Int) = 0 := by decide +kernel
    have q := b0 ⟨i.toNat, by omega⟩
    simp only [show (i.toNat : Int) = i by omega] at q
    rw [huF_s, q, huF_0 s m k (i + 1) (by omega) (by omega)]
    rfl
theorem su_z (f : Int → Int) (k : Nat) (m : Int) (h : ∀ i, m ≤ i → i < m + k → f i = 0) : su f k m = 0 := by
  rw [su_congr f (fun _ => 0) k m h]
  exact su_0 k m
theorem hr_0 (s w : Int → Int) (h0 : 0 ≤ s 1) (h6 : s 1 ≤ 6) (h : vaT s w (s 1).toNat 0 0 = true) : hrA s w (s 1).toNat 0 0 = hrP s w (s 1).toNat 0 := by
  rw [hr_eq s w h0 h6 _ 0 0 (by omega) (by omega) h, su_z _ _ _ (fun j x y => huF_0 s (w j) (s 1).toNat 0 (by omega) (by omega))]
  omega
def qHurts (g : Mem) (s : Int → Int) (t : Int) : Int × Int := if trN g t (s 1) ≠ 0 then (-1, trN g t (s 1)) else if vaT s (fun i => rd g (4 + t) i) (s 1).toNat 0 0 = true then (w32 (hrP s (fun i => rd g (4 + t) i) (s 1).toNat 0), 0) else (-1, 5)
section
variable {X : Xs} {d : Nat} {g : Mem} {s : Int → Int} {N : Int}
theorem c_110 (t p : Int) (t0 : 0 ≤ t) (t4 : t < 4) (p0 : 0 ≤ p) (p6 : p < 60) : MI X d 110 [.inr (.inr 2), .inl t, .inl p] S0 (ov g) = some (rd g (4 + t) p, S0, ov g) := by
  rw [e_110]
  simp (disch := omega) only [↓K_trs, ↓G_trs, ↓al_8 _, ↓as_8, ↓al_9 _, ↓as_9, ↓al_rows, ↓al_row, ↓as_row]
theorem c_193_i (r : RD g 19 s) (hi : Iv N s) (t i : Int) (t0 : 0 ≤ t) (t4 : t < 4) (hw : ∀ j, 0 ≤ j → j < s 1 → 0 ≤ rd g (4 + t) j ∧ rd g (4 + t) j < s 1) (i0 : 0 ≤ i) (i1 : i < s 1) : ∀ (k : Nat) (j a : Int), j + k = s 1 → 0 ≤ j → w32 a = a → EI X (d + 2) 193 20 [some (.inr (.inr 1)), some (.inl t), some (.inl a), some (.inl i), some (.inl j)] [] S0 (ov g) = EI X (d + 2) 193 4 [some (.inr (.inr 1)), some (.inl t), some (.inl (w32 (a + su (fun j => mn s (rd g (4 + t) i) (4 + rd g (4 + t) j)) k j))), some (.inl (i + 1)), none] [] S0 (ov g) := by
  have hb := isD19
  have r1 := r.2.1
  have i2 := hi.2.2.1
  have i3 := hi.2.2.2.1
  intro k
  induction k with
  | zero =>
    intro j a hk j0 ha
    rw [e_193_20]
    simp (disch := omega) only [↓G_top, ↓G_daw hb, r1, ↓oK_some, ↓oC_some, ↓if_pos, ↓if_neg, rd_wr_eq, rd_wr_ne, rd_wr_ix, w32_id, su, Int.add_zero, ha]
  | succ k ih =>
    intro j a hk j0 ha
    have wi := hw i i0 i1
    have wj := hw j j0 (by omega)
    have q := c_35 (X := X) (d := d + 1) hb r hi (rd g (4 + t) i) (rd g (4 + t) j) wi.1 wi.2 wj.1 wj.2
    rw [e_193_20]
    simp (disch := omega) only [↓G_top, ↓G_daw hb, r1, ↓K_trs, ↓K_daw hb, ↓oC_of (c_110 _ _ _ _ _ _), ↓oK_some, ↓oC_some, ↓if_pos, ↓if_neg, rd_wr_eq, rd_wr_ne, rd_wr_ix, w32_id, ↓oC_of q]
    rw [ih (j + 1) _ (by omega) (by omega) (w32_id (w32_rng _).1 (w32_rng _).2), w32_add, Int.add_assoc]
    rfl
theorem c_193_l (r : RD g 19 s) (hi : Iv N s) (t : Int) (t0 : 0 ≤ t) (t4 : t < 4) (hw : ∀ j, 0 ≤ j → j < s 1 → 0 ≤ rd g (4 + t) j ∧ rd g (4 + t) j < s 1) : ∀ (k : Nat) (i a : Int), i + k = s 1 → 0 ≤ i → w32 a = a → EI X (d + 2) 193 4 [some (.inr (.inr 1)), some (.inl t), some (.inl a), some (.inl i), none] [] S0 (ov g) = some (w32 (a + hrP s (fun i => rd g (4 + t) i) k i), S0, ov g) := by
  have hb := isD19
  have r1 := r.2.1
  have i2 := hi.2.2.1
  have i3 := hi.2.2.2.1
  intro k
  induction k with
  | zero =>
    intro i a hk i0 ha
    rw [e_193_4]
    simp (disch := omega) only [↓G_top, ↓G_daw hb, r1, ↓oK_some, ↓oC_some, ↓if_pos, ↓if_neg, rd_wr_eq, rd_wr_ne, rd_wr_ix, w32_id, hrP, Int.add_zero, ha]
  | succ k ih =>
    intro i a hk i0 ha
    rw [e_193_4]
    simp (disch := omega) only [↓G_top, ↓G_daw hb, r1, ↓oK_some, ↓oC_some, ↓if_pos, ↓if_neg, rd_wr_eq, rd_wr_ne, rd_wr_ix, w32_id]
    rw [c_193_i r hi t i t0 t4 hw i0 (by omega) k (i + 1) a (by omega) (by omega) ha, ih (i + 1) _ (by omega) (by omega) (w32_id (w32_rng _).1 (w32_rng _).2), w32_add, Int.add_assoc]
    rfl
theorem c_172_l (r : RD g 19 s) (hi : Iv N s) (t : Int) (t0 : 0 ≤ t) (t4 : t < 4) (Z : Int × Int) (hz : (∀ j, 0 ≤ j → j < s 1 → 0 ≤ rd g (4 + t) j ∧ rd g (4 + t) j < s 1) → Z = (w32 (hrP s (fun i => rd g (4 + t) i) (s 1).toNat 0), 0)) : ∀ (k : Nat) (i T : Int), i + k = s 1 → 0 ≤ i → 0 ≤ T → T < 64 → (∀ j, 0 ≤ j → j < i → 0 ≤ rd g (4 + t) j ∧ rd g (4 + t) j < s 1) → AnC g (if vaT s (fun i => rd g (4 + t) i) k i T = true then Z else (-1, 5)) (EI X (d + 3) 172 63 [some (.inr (.inr 1)), some (.inl t), some (.inl T), some (.inl i), none, none] [] S0 (ov g)) := by
  have hb := isD19
  have r1 := r.2.1
  have i2 := hi.2.2.1
  have i3 := hi.2.2.2.1
  intro k
  induction k with
  | zero =>
    intro i T hk i0 T0 T1 hw
    have hw' : ∀ j, 0 ≤ j → j < s 1 → 0 ≤ rd g (4 + t) j ∧ rd g (4 + t) j < s 1 := fun j a b => hw j a (by omega)
    have q : MI X (d + 2) 193 [.inr (.inr 1), .inl t] S0 (ov g) = some (w32 (hrP s (fun i => rd g (4 + t) i) (s 1).toNat 0), S0, ov g) := by
      rw [e_193, c_193_l r hi t t0 t4 hw' (s 1).toNat 0 0 (by omega) (by omega) rfl, Int.zero_add]
    rw [e_172_63]
    simp (disch := omega) only [↓G_top, ↓K_top, ↓G_daw hb, r1, ↓oK_some, ↓oC_some, ↓if_pos, ↓if_neg, rd_wr_eq, rd_wr_ne, rd_wr_ix, w32_id, ↓oC_of q]
    rw [show vaT s (fun i => rd g (4 + t) i) 0 i T = true from rfl, if_pos rfl, hz hw']
    exact AnC_tell (FC_rf g) _
  | succ k ih =>
    intro i T hk i0 T0 T1 hw
    rw [e_172_63]
    simp (disch := omega) only [↓G_top, ↓K_top, ↓G_daw hb, r1, ↓oK_some, ↓oC_some, ↓if_pos, ↓if_neg, rd_wr_eq, rd_wr_ne, rd_wr_ix, w32_id, ↓K_trs, ↓oC_of (c_110 _ _ _ _ _ _), lcm_lt]
    rw [vaT_s]
    generalize hm : rd g (4 + t) i = m at *
    by_cases h1 : m < 0
    · rw [if_pos h1, decide_eq_false (show ¬ (0 ≤ m ∧ m < s 1 ∧ bi T m = 0) from fun z => by omega)]
      exact AnC_no (FC_rf g) 5
    rw [if_neg h1]
    by_cases h2 : m < s 1
    case neg =>
      rw [if_neg h2, decide_eq_false (show ¬ (0 ≤ m ∧ m < s 1 ∧ bi T m = 0) from fun z => by omega)]
      exact AnC_no (FC_rf g) 5
    rw [if_pos h2]
    by_cases h3 : bi T m = 0
    case neg =>
      rw [if_neg (show ¬ am_and (am_shr T m) 1 = 0 from h3), decide_eq_false (show ¬ (0 ≤ m ∧ m < s 1 ∧ bi T m = 0) from fun z => h3 z.2.2)]
      exact AnC_no (FC_rf g) 5
    have ob := oI_b (T := T) (t := m) (K := 6) (by omega) T0 (by omega) (by omega) (by omega)
    rw [if_pos (show am_and (am_shr T m) 1 = 0 from h3), decide_eq_true (show (0 ≤ m ∧ m < s 1 ∧ bi T m = 0) from ⟨by omega, h2, h3⟩), Bool.true_and]
    exact ih (i + 1) (oI T m) (by omega) (by omega) ob.1 (by omega) (fun j a b => by
      by_cases z : j = i
      · subst z; rw [hm]; omega
      · exact hw j a (by omega))
theorem c_172 (tr : TR g) (r : RD g 19 s) (hi : Iv N s) (t : Int) : AnC g (qHurts g s t) (MI X (d + 3) 172 [.inr (.inr 1), .inl t] S0 (ov g)) := by
  have hb := isD19
  have r1 := r.2.1
  have hx := trN_c (g := g) (t := t) (n := s 1) rfl
  rw [e_172]
  unfold qHurts
  generalize trN g t (s 1) = W at hx
  rcases hx with ⟨rfl, h⟩ | ⟨rfl, h⟩ | ⟨rfl, h, h2⟩ | ⟨rfl, h, h2, h3⟩ | ⟨rfl, h, h2, h3⟩
  · rw [if_pos (by decide)]
    simp (disch := omega) only [↓K_top, ↓G_top, ↓P_top, ↓K_trs, ↓oC_of (c_103 _ _ _), ↓if_b2i, ↓oK_some, ↓oC_some, ↓if_pos, ↓if_neg, rd_wr_eq, rd_wr_ne, rd_wr_ix, w32_id]
    exact AnC_no (FC_rf g) 1
  · rw [if_pos (by decide)]
    simp (disch := omega) only [↓K_top, ↓G_top, ↓P_top, ↓K_trs, ↓oC_of (c_103 _ _ _), ↓if_b2i, ↓oK_some, ↓oC_some, ↓if_pos, ↓if_neg, rd_wr_eq, rd_wr_ne, rd_wr_ix, w32_id]
    exact AnC_no (FC_rf g) 1
  · rw [if_pos (by decide)]
    simp (disch := omega) only [↓K_top, ↓G_top, ↓P_top, ↓K_trs, ↓G_trs, ↓al_8 _, ↓oC_of (c_103 _ _ _), ↓if_b2i, ↓oC_of (c_104 _ _ _), ↓if_b2i, ↓oK_some, ↓oC_some, ↓if_pos, ↓if_neg, rd_wr_eq, rd_wr_ne, rd_wr_ix, w32_id]
    exact AnC_no (FC_rf g) 2
  · rw [if_pos (by decide)]
    have q := (tr t h.1 h.2).2.2.2 h2
    have q6 := c_106_0 (X := X) (d := d + 2) t (s 1) h.1 h.2 q.2.2.1 q.2.2.2.1
    rw [show b2i (s 1 ≤ rd g 9 t) = 0 from if_neg (by omega)] at q6
    simp (disch := omega) only [↓K_top, ↓G_top, ↓P_top, ↓K_trs, ↓G_trs, ↓al_8 _, ↓G_daw hb, r1, ↓oC_of (c_103 _ _ _), ↓if_b2i, ↓oC_of (c_104 _ _ _), ↓if_b2i, ↓oC_of q6, ↓oK_some, ↓oC_some, ↓if_pos, ↓if_neg, rd_wr_eq, rd_wr_ne, rd_wr_ix, w32_id]
    exact AnC_no (FC_rf g) 3
  · rw [if_neg (by decide)]
    have q := (tr t h.1 h.2).2.2.2 h2
    have q6 := c_106_0 (X := X) (d := d + 2) t (s 1) h.1 h.2 q.2.2.1 q.2.2.2.1
    rw [show b2i (s 1 ≤ rd g 9 t) = 1 from if_pos (by omega)] at q6
    simp (disch := omega) only [↓K_top, ↓G_top, ↓P_top, ↓K_trs, ↓G_trs, ↓al_8 _, ↓G_daw hb, r1, ↓oC_of (c_103 _ _ _), ↓if_b2i, ↓oC_of (c_104 _ _ _), ↓if_b2i, ↓oC_of q6, ↓oK_some, ↓oC_some, ↓if_pos, ↓if_neg, rd_wr_eq, rd_wr_ne, rd_wr_ix, w32_id]
    have i2 := hi.2.2.1
    exact c_172_l r hi t h.1 h.2 _ (fun _ => rfl) (s 1).toNat 0 0 (by omega) (by omega) (by omega) (by omega) (fun j a b => by omega)
theorem m_320_l (r : RM g s) (hi : Iv N s) (hN : N < 2000000000) (t : Int) (t0 : 0 ≤ t) (t4 : t < 4) {w : Int → Int} (hw : ∀ j, 0 ≤ j → j < s 1 → rd g 148 (60 * t + j) = w j) : ∀ (k : Nat) (i T a : Int), i + k = s 1 → 0 ≤ i → 0 ≤ T → T < 64 → w32 a = a → AnM g (if vaT s w k i T = true then (w32 (a + hrA s w k i T), 0) else (-1, 5)) (EI X (d + 3) 320 57 [some (.inr (.inr 143)), some (.inl t), some (.inl T), some (.inl a), some (.inl i), none, none] [] S0 (ov g)) := by
  have i2 := hi.2.2.1
  have i3 := hi.2.2.2.1
  have r1 : rd g 144 1 = s 1 := r 1 (by omega) (by omega)
  intro k
  induction k with
  | zero =>
    intro i T a hk i0 T0 T1 ha
    rw [e_320_57]
    simp (disch := omega) only [↓K_mod, ↓G_mod, ↓al_144 _, r1, ↓oK_some, ↓oC_some, ↓if_pos, ↓if_neg, rd_wr_eq, rd_wr_ne, rd_wr_ix, w32_id]
    rw [show vaT s w 0 i T = true from rfl, if_pos rfl, show hrA s w 0 i T = 0 from rfl, Int.add_zero, ha]
    exact AnM_tell (FN_rf g) _
  | succ k ih =>
    intro i T a hk i0 T0 T1 ha
    rw [e_320_57]
    have e1 := hw i i0 (by omega)
    simp (disch := omega) only [↓K_mod, ↓G_mod, ↓al_144 _, r1, ↓oK_some, ↓oC_some, ↓if_pos, ↓if_neg, rd_wr_eq, rd_wr_ne, rd_wr_ix, w32_id, ↓al_148, e1, ↓oC_of (m_212 _ _ _ _ _), ↓if_b2i]
    rw [vaT_s, w64_id (x := s 1 - 1) (by omega) (by omega)]
    generalize hm : w i = m at *
    by_cases h1 : 0 ≤ m ∧ m ≤ s 1 - 1
    case neg =>
      rw [if_neg h1, decide_eq_false (show ¬ (0 ≤ m ∧ m < s 1 ∧ bi T m = 0) from fun z => by omega)]
      exact AnM_no (FN_rf g) 5
    rw [if_pos h1, w32_id (x := m) (by omega) (by omega), oC_of (m_250 _ _ _ _), if_b2i]
    by_cases h3 : bi T m = 1
    · rw [if_pos h3, K_mod, decide_eq_false (show ¬ (0 ≤ m ∧ m < s 1 ∧ bi T m = 0) from fun z => by omega)]
      exact AnM_no (FN_rf g) 5
    have h30 : bi T m = 0 := by have := bi_01 T m; omega
    have ob := oI_b (T := T) (t := m) (K := 6) (by omega) T0 (by omega) (by omega) (by omega)
    rw [if_neg h3, K_mod, oC_of (m_321 (d := d) r hi hN T m (by omega) (by omega)), decide_eq_true (show (0 ≤ m ∧ m < s 1 ∧ bi T m = 0) from ⟨by omega, by omega, h30⟩), Bool.true_and]
    have q := ih (i + 1) (oI T m) (w32 (a + huF s T m (s 1).toNat 0)) (by omega) (by omega) ob.1 (by omega) (w32_id (w32_rng _).1 (w32_rng _).2)
    rw [w32_add, Int.add_assoc] at q
    have e2 : hrA s w (k + 1) i T = huF s T m (s 1).toNat 0 + hrA s w k (i + 1) (oI T m) := by
      show huF s T (w i) (s 1).toNat 0 + hrA s w k (i + 1) (oI T (w i)) = _
      rw [hm]
    rw [e2]
    exact q
theorem vaT_c {s w w2 : Int → Int} : ∀ (k : Nat) (i T : Int), (∀ j, i ≤ j → j < i + k → w j = w2 j) → vaT s w k i T = vaT s w2 k i T
  | 0, _, _, _ => rfl
  | k + 1, i, T, h => by
    rw [vaT_s, vaT_s, h i (by omega) (by omega), vaT_c k (i + 1) _ (fun j a b => h j (by omega) (by omega))]
theorem m_320 (tr : TR g) (r : RM g s) (hi : Iv N s) (hN : N < 2000000000) (t : Int) : AnM g (qHurts g s t) (MI X (d + 3) 320 [.inr (.inr 143), .inl t] S0 (ov g)) := by
  have i2 := hi.2.2.1
  have i3 := hi.2.2.2.1
  have r1 : rd g 144 1 = s 1 := r 1 (by omega) (by omega)
  have hx := trN_c (g := g) (t := t) (n := s 1) rfl
  rw [e_320]
  unfold qHurts
  generalize trN g t (s 1) = W at hx
  rcases hx with ⟨rfl, h⟩ | ⟨rfl, h⟩ | ⟨rfl, h, h2⟩ | ⟨rfl, h, h2, h3⟩ | ⟨rfl, h, h2, h3⟩
  · rw [if_pos (by decide)]
    simp (disch := omega) only [↓K_mod, ↓oC_of (m_205 _ _ _), ↓if_b2i, ↓oK_some, ↓oC_some, ↓if_pos, ↓if_neg, rd_wr_eq, rd_wr_ne, rd_wr_ix, w32_id]
    exact AnM_no (FN_rf g) 1
  · rw [if_pos (by decide)]
    simp (disch := omega) only [↓K_mod, ↓oC_of (m_205 _ _ _), ↓if_b2i, ↓oK_some, ↓oC_some, ↓if_pos, ↓if_neg, rd_wr_eq, rd_wr_ne, rd_wr_ix, w32_id]
    exact AnM_no (FN_rf g) 1
  · rw [if_pos (by decide)]
    have q := (tr t h.1 h.2).2.2.1 h2
    simp (disch := omega) only [↓K_mod, ↓G_mod, ↓al_147 _, ↓oC_of (m_205 _ _ _), ↓if_b2i, ↓oK_some, ↓oC_some, ↓if_pos, ↓if_neg, rd_wr_eq, rd_wr_ne, rd_wr_ix, w32_id]
    exact AnM_no (FN_rf g) 2
  · rw [if_pos (by decide)]
    have q := (tr t h.1 h.2).2.2.2 h2
    simp (disch := omega) only [↓K_mod, ↓G_mod, ↓al_147 _, ↓al_144 _, r1, ↓oC_of (m_205 _ _ _), ↓if_b2i, ↓oK_some, ↓oC_some, ↓if_pos, ↓if_neg, rd_wr_eq, rd_wr_ne, rd_wr_ix, w32_id]
    exact AnM_no (FN_rf g) 3
  · rw [if_neg (by decide)]
    have q := (tr t h.1 h.2).2.2.2 h2
    simp (disch := omega) only [↓K_mod, ↓G_mod, ↓al_147 _, ↓al_144 _, r1, ↓oC_of (m_205 _ _ _), ↓if_b2i, ↓oK_some, ↓oC_some, ↓if_pos, ↓if_neg, rd_wr_eq, rd_wr_ne, rd_wr_ix, w32_id]
    have hw : ∀ j, 0 ≤ j → j < s 1 → rd g 148 (60 * t + j) = (fun i => rd g (4 + t) i) j := fun j a b => (q.2.2.2.2 j a (by omega)).symm
    have ml := m_320_l (X := X) (d := d) r hi hN t h.1 h.2 hw (s 1).toNat 0 0 0 (by omega) (by omega) (by omega) (by omega) rfl
    by_cases z : vaT s (fun i => rd g (4 + t) i) (s 1).toNat 0 0 = true
    · rw [if_pos z] at ml ⊢
      rw [hr_0 s _ i2 i3 z, Int.zero_add] at ml
      exact ml
    · rw [if_neg z] at ml ⊢
      exact ml
end
