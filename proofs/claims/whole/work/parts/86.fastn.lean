/-! faster of the model -/
section
variable {X : Xs} {d : Nat} {g : Mem} {s : Int → Int} {N : Int}
theorem m_313_o (r : RM g s) (hi : Iv N s) (m o v : Int) (h1 : 0 ≤ m) (h2 : m < s 1) (h3 : 0 ≤ o) (h4 : o < s 1) : ∀ (k : Nat) (x c b : Int), x + k = s 0 → 0 ≤ x → 0 ≤ c → c ≤ 8 * x → 0 ≤ b → b ≤ 8 * x → EI X (d + 4) 313 43 [some (.inr (.inr 143)), some (.inl m), some (.inl o), some (.inl v), some (.inl c), some (.inl b), some (.inl x), none] [] S0 (ov g) = oC (MI X (d + 3) 204 [.inr (.inr 143), .inr (.inl (fpA (ndN s m o) (ndN s o m) v (s 0).toNat k x c)), .inr (.inl (b + cnF v k x * cnF v (s 0).toNat 0))] S0 (ov g)) fun r3 S3 m3 => if r3 = 0 ∨ r3 = 1 then some (r3, S3, m3) else none := by
  have i0 := hi.1
  have i1 := hi.2.1
  have a0 : rd g 144 0 = s 0 := r 0 (by omega) (by omega)
  intro k
  induction k with
  | zero =>
    intro x c b hk x0 c0 c1 b0 b1
    rw [e_313_43]
    simp (disch := omega) only [↓K_mod, ↓G_mod, ↓al_144 _, a0]
    rw [if_neg (show ¬ x < s 0 by omega), show cnF v 0 x = 0 from rfl, Int.zero_mul, Int.add_zero]
    rfl
  | succ k ih =>
    intro x c b hk x0 c0 c1 b0 b1
    have b01 := bi_01 v x
    have fb := fpB_b (ndN s o m) v (ndN s m o x) (s 0).toNat 0 c
    have cb := cnF_b v (s 0).toNat 0
    rw [e_313_43]
    simp (disch := omega) only [↓K_mod, ↓G_mod, ↓al_144 _, a0]
    rw [if_pos (show x < s 0 by omega), m_313_i (d := d) r hi m o v x h1 h2 h3 h4 x0 (by omega) (s 0).toNat 0 c b (by omega) (by omega) c0 (by omega) b0 (by omega), fpA_s, show cnF v (k + 1) x = bi v x + cnF v k (x + 1) from rfl]
    rw [ih (x + 1) _ _ (by omega) (by omega) (by split <;> omega) (by split <;> omega) (by split <;> omega) (by split <;> omega)]
    have eb : (if bi v x = 1 then b + cnF v (s 0).toNat 0 else b) + cnF v k (x + 1) * cnF v (s 0).toNat 0 = b + (bi v x + cnF v k (x + 1)) * cnF v (s 0).toNat 0 := by
      rw [Int.add_mul]
      by_cases e : bi v x = 1
      · rw [if_pos e, e, Int.one_mul]; omega
      · rw [if_neg e, show bi v x = 0 by omega, Int.zero_mul]; omega
    rw [eb]
theorem m_313 (r : RM g s) (hi : Iv N s) (m o v : Int) : AnM (if faC s m o v then frG g 143 3 4 (faT s m o v) (faB s v) else g) (qFaster s m o v) (MI X (d + 4) 313 [.inr (.inr 143), .inl m, .inl o, .inl v] S0 (ov g)) := by
  have i0 := hi.1
  have i1 := hi.2.1
  have a0 : rd g 144 0 = s 0 := r 0 (by omega) (by omega)
  rw [e_313]
  simp (disch := omega) only [↓K_mod, ↓G_mod, ↓al_144 _, a0, ↓oC_of (m_248 r _ _), ↓oC_of (m_212 _ _ _ _ _), ↓if_b2i, lshl_8 i0 i1]
  unfold qFaster
  have bad : ¬ faC s m o v → AnM (if faC s m o v then frG g 143 3 4 (faT s m o v) (faB s v) else g) (if faC s m o v then (1, 0) else (0, 1)) (oC (MI X (d + 3) 200 [.inr (.inr 143), .inl 1] S0 (ov g)) fun r S m => if r = 0 ∨ r = 1 then some (r, S, m) else none) := fun h => by
    rw [if_neg h, if_neg h, oC_of (m_200 1), show b2i ((1 : Int) = 0) = 0 from rfl, if_pos (Or.inl rfl)]
    exact Ok_some ⟨rfl, rd_wr_eq _ _ _ _, FN_st _ _⟩
  by_cases h1 : 0 ≤ m ∧ m < s 1 ∧ 0 ≤ o ∧ o < s 1 ∧ m ≠ o
  case neg => rw [if_neg h1]; exact bad (fun z => h1 z.1)
  by_cases h3 : 1 ≤ v ∧ v ≤ 2 ^ (s 0).toNat - 1
  case neg => rw [if_pos h1, if_neg h3]; exact bad (fun z => by omega)
  have y : faC s m o v := ⟨h1, by omega, by omega⟩
  obtain ⟨b1, b2, b3, b4, b5, b6, b7⟩ := fa_b hi y
  rw [if_pos h1, if_pos h3, m_313_o (d := d) r hi m o v h1.1 h1.2.1 h1.2.2.1 h1.2.2.2.1 (s 0).toNat 0 0 0 (by omega) (by omega) (by omega) (by omega) (by omega) (by omega), Int.zero_add]
  have q := m_204 (X := X) (d := d + 2) (g := g) b4 (show faT s m o v < 9223372036854775808 by omega) b6 (show faB s v < 1125899906842624 by omega)
  have q' : MI X (d + 3) 204 [.inr (.inr 143), .inr (.inl (fpA (ndN s m o) (ndN s o m) v (s 0).toNat (s 0).toNat 0 0)), .inr (.inl (cnF v (s 0).toNat 0 * cnF v (s 0).toNat 0))] S0 (ov g) = some (1, S0, ov (wr (frG g 143 3 4 (faT s m o v) (faB s v)) 143 2 0)) := q
  rw [oC_of q', if_pos (Or.inr rfl), if_pos y, if_pos y]
  exact Ok_some ⟨rfl, rd_wr_eq _ _ _ _, FN_st _ _⟩
end
