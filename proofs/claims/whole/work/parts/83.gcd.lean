/-! a fraction in its least terms, of both -/
def gcF : Nat → Int → Int → Int
  | 0, a, _ => a
  | k + 1, a, b => if b = 0 then a else gcF k b (a % b)
def gcT : Nat → Int → Int → Prop
  | 0, _, b => b = 0
  | k + 1, a, b => b = 0 ∨ gcT k b (a % b)
theorem gcF_s (k : Nat) (a b : Int) : gcF (k + 1) a b = if b = 0 then a else gcF k b (a % b) := rfl
theorem gcF_p : ∀ (k : Nat) (a b : Int), 0 ≤ a → 0 ≤ b → (0 < a ∨ 0 < b) → gcT k a b → 0 < gcF k a b
  | 0, a, b, _, _, h, t => by
    have t' : b = 0 := t
    show 0 < a
    omega
  | k + 1, a, b, a0, b0, h, t => by
    rw [gcF_s]
    by_cases e : b = 0
    · rw [if_pos e]; omega
    · rw [if_neg e]
      exact gcF_p k b (a % b) b0 (Int.emod_nonneg a e) (Or.inl (by omega)) (t.resolve_left e)
theorem gcT_n : ∀ (n k : Nat) (a b : Int), 2 * n ≤ k → 0 ≤ a → 0 ≤ b → b < ((2 ^ n : Nat) : Int) → gcT k a b
  | 0, k, a, b, _, _, b0, b1 => by
    have e : b = 0 := by
      have : ((2 ^ 0 : Nat) : Int) = 1 := rfl
      omega
    cases k with
    | zero => exact e
    | succ k => exact Or.inl e
  | n + 1, k, a, b, hk, a0, b0, b1 => by
    obtain ⟨k', rfl⟩ : ∃ k', k = k' + 1 + 1 := ⟨k - 2, by omega⟩
    by_cases e : b = 0
    · exact Or.inl e
    refine Or.inr ?_
    have r0 := Int.emod_nonneg a e
    have r1 := Int.emod_lt_of_pos a (show 0 < b by omega)
    by_cases e2 : a % b = 0
    · exact Or.inl e2
    refine Or.inr ?_
    have q0 := Int.emod_nonneg b e2
    have q1 := Int.emod_lt_of_pos b (show 0 < a % b by omega)
    have h2 : 2 * (b % (a % b)) < b := by
      by_cases c : 2 * (a % b) ≤ b
      · omega
      · have z : b % (a % b) = b - a % b := by
          have y : (b - a % b) % (a % b) = b - a % b := Int.emod_eq_of_lt (by omega) (by omega)
          rw [← y, Int.sub_emod_right]
        omega
    have p : (2 ^ (n + 1) : Nat) = 2 * 2 ^ n := by rw [Nat.pow_succ]; omega
    exact gcT_n n k' (a % b) (b % (a % b)) (by omega) r0 q0 (by omega)
def gcG (a b : Int) : Int := gcF 100 a b
theorem gcT_100 {a b : Int} (a0 : 0 ≤ a) (b0 : 0 ≤ b) (b1 : b < 1125899906842624) : gcT 100 a b := gcT_n 50 100 a b (by omega) a0 b0 (by
  have : ((2 ^ 50 : Nat) : Int) = 1125899906842624 := by decide +kernel
  omega)
theorem ldiv_p {a b : Int} (a0 : 0 ≤ a) (a1 : a < 9223372036854775808) (b0 : 0 < b) : am_ldiv a b = a / b := by
  unfold am_ldiv
  have q : Int.tdiv a b = a / b := Int.tdiv_eq_ediv_of_nonneg a0
  have q0 := Int.ediv_nonneg a0 (show 0 ≤ b by omega)
  have q1 := Int.ediv_le_self b a0
  rw [q, w64_id (by omega) (by omega)]
theorem lrem_p {a b : Int} (a0 : 0 ≤ a) : am_lrem a b = a % b := by
  unfold am_lrem
  exact Int.tmod_eq_emod_of_nonneg a0
section
variable {X : Xs} {d : Nat} {g : Mem}
theorem c_186_l {t b : Int} (t0 : 0 ≤ t) (t1 : t < 9223372036854775808) (b0 : 0 ≤ b) (b1 : b < 9223372036854775808) : ∀ (k : Nat) (x y j : Int), j + k = 100 → 0 ≤ j → 0 ≤ x → 0 ≤ y → (0 < x ∨ 0 < y) → gcT k x y → EI X d 186 9 [some (.inr (.inr 1)), some (.inr (.inl t)), none, some (.inr (.inl b)), none, some (.inr (.inl x)), none, some (.inr (.inl y)), none, some (.inl j), none, none] [] S0 (ov g) = some (0, S0, ov (wr (wr g 1 18 (t / gcF k x y)) 1 19 (b / gcF k x y))) := by
  intro k
  induction k with
  | zero =>
    intro x y j hk j0 x0 y0 h tt
    have ty : y = 0 := tt
    have xp : 0 < x := by omega
    rw [e_186_9, if_neg (show ¬ j < 100 by omega), if_neg (show ¬ am_lcmp x 0 = 0 from fun z => by rw [lcmp_eq] at z; omega), if_neg (show ¬ x = 0 by omega), ldiv_p t0 t1 xp]
    simp only [↓P_top, ↓if_neg (show ¬ x = 0 by omega), ldiv_p b0 b1 xp]
    rfl
  | succ k ih =>
    intro x y j hk j0 x0 y0 h tt
    rw [e_186_9, if_pos (show j < 100 by omega), gcF_s]
    by_cases e : y = 0
    · have xp : 0 < x := by omega
      rw [if_pos (show am_lcmp y 0 = 0 from (lcmp_eq _ _).2 e), if_pos e, if_neg (show ¬ am_lcmp x 0 = 0 from fun z => by rw [lcmp_eq] at z; omega), if_neg (show ¬ x = 0 by omega), ldiv_p t0 t1 xp]
      simp only [↓P_top, ↓if_neg (show ¬ x = 0 by omega), ldiv_p b0 b1 xp]
    · rw [if_neg (show ¬ am_lcmp y 0 = 0 from fun z => e ((lcmp_eq _ _).1 z)), if_neg e, if_neg e, w32_id (by omega) (by omega), lrem_p x0]
      exact ih y (x % y) (j + 1) (by omega) (by omega) y0 (Int.emod_nonneg x e) (Or.inl (by omega)) (tt.resolve_left e)
theorem c_186 {t b : Int} (t0 : 0 ≤ t) (t1 : t < 9223372036854775808) (b0 : 0 < b) (b1 : b < 1125899906842624) : MI X d 186 [.inr (.inr 1), .inr (.inl t), .inr (.inl b)] S0 (ov g) = some (0, S0, ov (wr (wr g 1 18 (t / gcG t b)) 1 19 (b / gcG t b))) := by
  rw [e_186, c_186_l t0 t1 (by omega) (by omega) 100 t b 0 (by omega) (by omega) t0 (by omega) (Or.inr b0) (gcT_100 t0 (by omega) b1)]
  rfl
theorem m_204_l {t b : Int} (t0 : 0 ≤ t) (t1 : t < 9223372036854775808) (b0 : 0 ≤ b) (b1 : b < 9223372036854775808) : ∀ (k : Nat) (x y : Int), 0 ≤ x → 0 ≤ y → (0 < x ∨ 0 < y) → gcT k x y → EI X (d + 1) 204 6 [some (.inr (.inr 143)), some (.inr (.inl t)), none, some (.inr (.inl b)), none, some (.inr (.inl x)), none, some (.inr (.inl y)), none, none, none] [] S0 (ov g) = some (1, S0, ov (wr (wr (wr g 143 3 (t / gcF k x y)) 143 4 (b / gcF k x y)) 143 2 0)) := by
  have fin : ∀ x, 0 < x → EI X (d + 1) 204 6 [some (.inr (.inr 143)), some (.inr (.inl t)), none, some (.inr (.inl b)), none, some (.inr (.inl x)), none, some (.inr (.inl 0)), none, none, none] [] S0 (ov g) = some (1, S0, ov (wr (wr (wr g 143 3 (t / x)) 143 4 (b / x)) 143 2 0)) := fun x xp => by
    rw [e_204_6, if_pos (show am_lcmp 0 0 = 0 from (lcmp_eq _ _).2 rfl), if_neg (show ¬ x = 0 by omega), ldiv_p t0 t1 xp]
    have e1 : ∀ g', MI X d 200 [.inr (.inr 143), .inl 0] S0 (ov g') = some (1, S0, ov (wr g' 143 2 0)) := fun g' => m_200 0
    simp only [↓P_mod, ↓K_mod, ↓oC_of (e1 _), ↓if_neg (show ¬ x = 0 by omega), ldiv_p b0 b1 xp]
    first | exact if_pos (Or.inr rfl) | rfl
  intro k
  induction k with
  | zero =>
    intro x y x0 y0 h tt
    have ty : y = 0 := tt
    subst ty
    exact fin x (by omega)
  | succ k ih =>
    intro x y x0 y0 h tt
    rw [gcF_s]
    by_cases e : y = 0
    · subst e
      rw [if_pos rfl]
      exact fin x (by omega)
    · rw [if_neg e, e_204_6, if_neg (show ¬ am_lcmp y 0 = 0 from fun z => e ((lcmp_eq _ _).1 z)), if_neg e, lrem_p x0]
      exact ih y (x % y) y0 (Int.emod_nonneg x e) (Or.inl (by omega)) (tt.resolve_left e)
theorem m_204 {t b : Int} (t0 : 0 ≤ t) (t1 : t < 9223372036854775808) (b0 : 0 < b) (b1 : b < 1125899906842624) : MI X (d + 1) 204 [.inr (.inr 143), .inr (.inl t), .inr (.inl b)] S0 (ov g) = some (1, S0, ov (wr (wr (wr g 143 3 (t / gcG t b)) 143 4 (b / gcG t b)) 143 2 0)) := by
  rw [e_204, m_204_l t0 t1 (by omega) (by omega) 100 t b t0 (by omega) (Or.inr b0) (gcT_100 t0 (by omega) b1)]
  rfl
end
