/-! faster of both -/
abbrev faC (s : Int → Int) (m o v : Int) : Prop := (0 ≤ m ∧ m < s 1 ∧ 0 ≤ o ∧ o < s 1 ∧ m ≠ o) ∧ v ≠ 0 ∧ (0 ≤ v ∧ v < 2 ^ (s 0).toNat)
def faT (s : Int → Int) (m o v : Int) : Int := fpA (ndN s m o) (ndN s o m) v (s 0).toNat (s 0).toNat 0 0
def faB (s : Int → Int) (v : Int) : Int := cnF v (s 0).toNat 0 * cnF v (s 0).toNat 0
def qFaster (s : Int → Int) (m o v : Int) : Int × Int := if faC s m o v then (1, 0) else (0, 1)
/-- the fraction told -/
def frG (g : Mem) (c i j t b : Int) : Mem := wr (wr g c i (t / gcG t b)) c j (b / gcG t b)
theorem bc_pos : ∀ v : Fin 256, v.val ≠ 0 → 0 < bcN (v.val : Int) := by decide +kernel
theorem lshl_a8 : ∀ n : Fin 9, w64 ((am_lshl 1 (n.val : Int)) - 1) = 2 ^ n.val - 1 := by decide +kernel
theorem lshl_8 {n : Int} (n0 : 0 ≤ n) (n1 : n ≤ 8) : w64 ((am_lshl 1 n) - 1) = 2 ^ n.toNat - 1 := by
  have q := lshl_a8 ⟨n.toNat, by omega⟩
  simp only [show (n.toNat : Int) = n by omega] at q
  exact q
theorem pw_c (K : Nat) : ((2 ^ K : Nat) : Int) = 2 ^ K := by norm_cast
section
variable {X : Xs} {d : Nat} {g : Mem} {s : Int → Int} {N : Int}
theorem fa_b (hi : Iv N s) {m o v : Int} (h : faC s m o v) : bcN v = cnF v (s 0).toNat 0 ∧ 0 < cnF v (s 0).toNat 0 ∧ cnF v (s 0).toNat 0 ≤ 8 ∧ 0 ≤ faT s m o v ∧ faT s m o v ≤ 64 ∧ 0 < faB s v ∧ faB s v ≤ 64 := by
  have i0 := hi.1
  have i1 := hi.2.1
  obtain ⟨h1, h2, h3, h4⟩ := h
  have p8 := pow_256 (n := (s 0).toNat) (by omega)
  rw [← pw_c] at h4
  have e := bc_K (v := v) (K := (s 0).toNat) h3 h4 (by omega)
  have pos := bc_pos ⟨v.toNat, by omega⟩ (by show v.toNat ≠ 0; omega)
  simp only [show (v.toNat : Int) = v by omega] at pos
  have cb := cnF_b v (s 0).toNat 0
  have fb := fpA_b (ndN s m o) (ndN s o m) v (s 0).toNat (by omega) (s 0).toNat 0 0
  rw [e] at pos
  have c8 : cnF v (s 0).toNat 0 ≤ 8 := by omega
  have m1 : cnF v (s 0).toNat 0 * cnF v (s 0).toNat 0 ≤ 8 * 8 := Int.mul_le_mul c8 c8 (by omega) (by omega)
  have m2 : 0 < cnF v (s 0).toNat 0 * cnF v (s 0).toNat 0 := Int.mul_pos pos pos
  refine ⟨e, pos, c8, ?_, ?_, m2, by unfold faB; omega⟩ <;> unfold faT <;> omega
theorem c_167 (r : RD g 19 s) (hi : Iv N s) (m o v : Int) (hv : v < 2147483648) : AnC (if faC s m o v then frG g 1 18 19 (faT s m o v) (faB s v) else g) (qFaster s m o v) (MI X (d + 3) 167 [.inr (.inr 1), .inl m, .inl o, .inl v] S0 (ov g)) := by
  have hb := isD19
  have i0 := hi.1
  have i1 := hi.2.1
  have r0 := r.1
  rw [e_167]
  simp only [↓K_top, ↓G_top, ↓P_top, ↓K_daw hb, ↓G_daw hb, r0, ↓oC_of (c_24 hb r _ _), ↓oC_of (c_191 hv i0 i1 _ _), ↓if_b2i]
  unfold qFaster
  have bad : ¬ faC s m o v → AnC (if faC s m o v then frG g 1 18 19 (faT s m o v) (faB s v) else g) (if faC s m o v then (1, 0) else (0, 1)) (oC (MI X (d + 2) 185 [.inr (.inr 1), .inl 1] S0 (ov g)) fun r S m => if r = 0 ∨ r = 1 then some (r, S, m) else none) := fun h => by
    rw [if_neg h, if_neg h, oC_of (c_185 1), if_pos (Or.inl rfl)]
    exact Ok_some ⟨rfl, rd_wr_eq _ _ _ _, FC_st _ _⟩
  by_cases h1 : 0 ≤ m ∧ m < s 1 ∧ 0 ≤ o ∧ o < s 1 ∧ m ≠ o
  case neg => rw [if_neg h1]; exact bad (fun z => h1 z.1)
  by_cases h2 : v = 0
  · rw [if_pos h1, if_pos h2]; exact bad (fun z => z.2.1 h2)
  by_cases h3 : 0 ≤ v ∧ v < 2 ^ (s 0).toNat
  case neg => rw [if_pos h1, if_neg h2, if_neg h3]; exact bad (fun z => h3 z.2.2)
  have y : faC s m o v := ⟨h1, h2, h3⟩
  obtain ⟨b1, b2, b3, b4, b5, b6, b7⟩ := fa_b hi y
  have q : MI X (d + 2) 62 [.inr (.inr 19), .inl m, .inl o, .inl v] S0 (ov g) = some (faT s m o v, S0, ov g) := by
    rw [e_62, c_62_o (d := d) r hi m o v h1.1 h1.2.1 h1.2.2.1 h1.2.2.2.1 (s 0).toNat 0 0 (by omega) (by omega) (by omega) (by omega)]
    rfl
  have bm : w64 (bcN v * bcN v) = faB s v := by
    rw [b1]
    exact w64_id (by unfold faB at b6; omega) (by unfold faB at b7; omega)
  rw [if_pos h1, if_neg h2, if_pos h3, oC_of (j_339 v _ _)]
  simp only [↓K_top, ↓G_top, ↓P_top, ↓oC_of q, bm, ↓oC_of (c_186 b4 (show faT s m o v < 9223372036854775808 by omega) b6 (show faB s v < 1125899906842624 by omega))]
  rw [if_pos y, if_pos y, oC_of c_184, if_pos (Or.inr rfl)]
  exact Ok_some ⟨rfl, rd_wr_eq _ _ _ _, FC_st _ _⟩
theorem m_313_i (r : RM g s) (hi : Iv N s) (m o v x : Int) (h1 : 0 ≤ m) (h2 : m < s 1) (h3 : 0 ≤ o) (h4 : o < s 1) (x0 : 0 ≤ x) (x1 : x < s 0) : ∀ (k : Nat) (y c b : Int), y + k = s 0 → 0 ≤ y → 0 ≤ c → c ≤ 100 - k → 0 ≤ b → b ≤ 1000 - k → EI X (d + 4) 313 57 [some (.inr (.inr 143)), some (.inl m), some (.inl o), some (.inl v), some (.inl c), some (.inl b), some (.inl x), some (.inl y)] [] S0 (ov g) = EI X (d + 4) 313 43 [some (.inr (.inr 143)), some (.inl m), some (.inl o), some (.inl v), some (.inl (if bi v x = 1 ∧ ndN s m o x ≠ -1 then fpB (ndN s o m) v (ndN s m o x) k y c else c)), some (.inl (if bi v x = 1 then b + cnF v k y else b)), some (.inl (x + 1)), none] [] S0 (ov g) := by
  have i1 := hi.2.1
  have i3 := hi.2.2.2.1
  have a0 : rd g 144 0 = s 0 := r 0 (by omega) (by omega)
  have n1 := ndN_r hi (m := m) h3 h4 x
  intro k
  induction k with
  | zero =>
    intro y c b hk y0 c0 c1 b0 b1
    rw [e_313_57]
    simp (disch := omega) only [↓K_mod, ↓G_mod, ↓al_144 _, a0]
    rw [if_neg (show ¬ y < s 0 by omega), w32_id (by omega) (by omega)]
    have ea : (if bi v x = 1 ∧ ndN s m o x ≠ -1 then fpB (ndN s o m) v (ndN s m o x) 0 y c else c) = c := by split <;> rfl
    have eb : (if bi v x = 1 then b + cnF v 0 y else b) = b := by
      split
      · exact Int.add_zero b
      · rfl
    rw [ea, eb]
  | succ k ih =>
    intro y c b hk y0 c0 c1 b0 b1
    have b01 := bi_01 v x
    have b02 := bi_01 v y
    have n2 := ndN_r hi (m := o) h1 h2 y
    have q1 := m_300 (X := X) (d := d) r hi m o x h1 h2 h3 h4 (by omega) (by omega)
    have q2 := m_300 (X := X) (d := d) r hi o m y h3 h4 h1 h2 (by omega) (by omega)
    rw [show asM x = x from if_neg (by omega)] at q1
    rw [show asM y = y from if_neg (by omega)] at q2
    rw [e_313_57]
    simp (disch := omega) only [↓K_mod, ↓G_mod, ↓al_144 _, a0, ↓oC_of (m_250 _ _ _ _), ↓if_b2i, ↓oC_of q1, ↓oC_of q2]
    rw [if_pos (show y < s 0 by omega), w32_id (x := y + 1) (by omega) (by omega), fpB_s, show cnF v (k + 1) y = bi v y + cnF v k (y + 1) from rfl]
    by_cases e1 : bi v x = 1
    case neg =>
      have z := ih (y + 1) c b (by omega) (by omega) c0 (by omega) b0 (by omega)
      rw [if_neg e1, z, if_neg e1, if_neg e1, if_neg (show ¬ (bi v x = 1 ∧ ndN s m o x ≠ -1) from fun z => e1 z.1), if_neg (show ¬ (bi v x = 1 ∧ ndN s m o x ≠ -1) from fun z => e1 z.1)]
    by_cases e2 : bi v y = 1
    case neg =>
      have e20 : bi v y = 0 := by omega
      have z := ih (y + 1) c b (by omega) (by omega) c0 (by omega) b0 (by omega)
      rw [if_pos e1, if_neg e2, z, if_pos e1, if_pos e1, e20, Int.zero_add, if_neg (show ¬ ((0 : Int) = 1 ∧ (ndN s o m y = -1 ∨ ndN s m o x < ndN s o m y)) by omega)]
    rw [if_pos e1, if_pos e2, if_pos e1, w32_id (x := b + 1) (by omega) (by omega), e2]
    have os : orF (ndN s m o x) < orF (ndN s o m y) ↔ (ndN s m o x ≠ -1 ∧ (ndN s o m y = -1 ∨ ndN s m o x < ndN s o m y)) := by
      unfold orF
      split <;> split <;> omega
    by_cases e3 : orF (ndN s m o x) < orF (ndN s o m y)
    · have z := ih (y + 1) (c + 1) (b + 1) (by omega) (by omega) (by omega) (by omega) (by omega) (by omega)
      have e4 := os.1 e3
      rw [if_pos e3, w32_id (x := c + 1) (by omega) (by omega), z, if_pos e1, if_pos (show (1 : Int) = 1 ∧ (ndN s o m y = -1 ∨ ndN s m o x < ndN s o m y) from ⟨rfl, e4.2⟩), if_pos ⟨e1, e4.1⟩, if_pos ⟨e1, e4.1⟩, Int.add_assoc]
    · have z := ih (y + 1) c (b + 1) (by omega) (by omega) (by omega) (by omega) (by omega) (by omega)
      rw [if_neg e3, Int.add_zero, w32_id (x := c) (by omega) (by omega), z, if_pos e1, Int.add_assoc]
      by_cases e5 : ndN s m o x = -1
      · rw [if_neg (fun z => z.2 e5), if_neg (fun z => z.2 e5)]
      · rw [if_pos ⟨e1, e5⟩, if_pos ⟨e1, e5⟩, if_neg (show ¬ ((1 : Int) = 1 ∧ (ndN s o m y = -1 ∨ ndN s m o x < ndN s o m y)) from fun z => e3 (os.2 ⟨e5, z.2⟩))]
end
