/-! sets of men, of both -/
theorem am_shr_v {v n : Int} (h0 : 0 ≤ v) (h1 : v < 2147483648) (n0 : 0 ≤ n) (n1 : n ≤ 8) : am_shr v n = v / 2 ^ n.toNat := by
  have c : n = 0 ∨ n = 1 ∨ n = 2 ∨ n = 3 ∨ n = 4 ∨ n = 5 ∨ n = 6 ∨ n = 7 ∨ n = 8 := by omega
  rcases c with rfl | rfl | rfl | rfl | rfl | rfl | rfl | rfl | rfl
  · exact am_shr_n v 0 (by decide +kernel) h0 h1
  · exact am_shr_n v 1 (by decide +kernel) h0 h1
  · exact am_shr_n v 2 (by decide +kernel) h0 h1
  · exact am_shr_n v 3 (by decide +kernel) h0 h1
  · exact am_shr_n v 4 (by decide +kernel) h0 h1
  · exact am_shr_n v 5 (by decide +kernel) h0 h1
  · exact am_shr_n v 6 (by decide +kernel) h0 h1
  · exact am_shr_n v 7 (by decide +kernel) h0 h1
  · exact am_shr_n v 8 (by decide +kernel) h0 h1
/-- one bit -/
def bi (v i : Int) : Int := am_and (am_shr v i) 1
theorem bi_01 (v i : Int) : bi v i = 0 ∨ bi v i = 1 := by
  unfold bi
  rw [am_and_1]
  omega
theorem lshl_all : ∀ n : Fin 7, w64 ((am_lshl 1 (n.val : Int)) - 1) = 2 ^ n.val - 1 := by decide +kernel
theorem lshl_v {n : Int} (n0 : 0 ≤ n) (n1 : n ≤ 6) : w64 ((am_lshl 1 n) - 1) = 2 ^ n.toNat - 1 := by
  have q := lshl_all ⟨n.toNat, by omega⟩
  simp only [show (n.toNat : Int) = n by omega] at q
  exact q
theorem shr_nul {v n : Int} (h0 : 0 ≤ v) (h1 : v < 2147483648) (n0 : 0 ≤ n) (n1 : n ≤ 8) : am_shr v n = 0 ↔ v < 2 ^ n.toNat := by
  rw [am_shr_v h0 h1 n0 n1]
  have p : (0 : Int) < 2 ^ n.toNat := Int.pow_pos (by omega)
  constructor
  · intro h
    have q := Int.emod_add_mul_ediv v (2 ^ n.toNat)
    have q2 := Int.emod_lt_of_pos v p
    rw [h] at q
    simp only [Int.mul_zero, Int.add_zero] at q
    omega
  · intro h
    exact Int.ediv_eq_zero_of_lt h0 h
abbrev arC (s : Int → Int) (v o : Int) : Prop := (0 ≤ o ∧ o < s 1) ∧ (0 ≤ v ∧ v < 2 ^ (s 1).toNat) ∧ bi v o = 0
section
variable {X : Xs} {d : Nat} {g : Mem} {s : Int → Int} {b N : Int}
theorem c_191 {v n : Int} (h1 : v < 2147483648) (n0 : 0 ≤ n) (n1 : n ≤ 8) (S : Sh) (h : Mem) : MI X d 191 [.inl v, .inl n] S h = some (b2i (0 ≤ v ∧ v < 2 ^ n.toNat), S, h) := by
  rw [e_191]
  unfold b2i
  by_cases e : v < 0
  · rw [if_pos e, if_neg (fun z => by omega)]
  · rw [if_neg e]
    have q := shr_nul (v := v) (by omega) h1 n0 n1
    by_cases z : am_shr v n = 0
    · rw [if_pos z, if_pos ⟨by omega, q.1 z⟩]
    · rw [if_neg z, if_neg (fun w => z (q.2 w.2))]
theorem c_192 (r : RD g 19 s) (hi : Iv N s) {v o : Int} (hv : v < 2147483648) : MI X (d + 1) 192 [.inr (.inr 1), .inl v, .inl o] S0 (ov g) = some (b2i (arC s v o), S0, ov g) := by
  obtain ⟨i0, i1, i2, i3, -⟩ := id hi
  have hb := isD19
  have r1 := r.2.1
  rw [e_192]
  simp only [↓K_top, ↓G_top, ↓P_top, ↓K_daw hb, ↓G_daw hb, ↓oC_of (c_23 hb r _), ↓if_b2i, r1, ↓oC_of (c_191 hv i2 (Int.le_trans i3 (by decide)) _ _)]
  unfold b2i
  by_cases h1 : 0 ≤ o ∧ o < s 1
  case neg => rw [if_neg h1, if_neg (fun z => h1 z.1)]
  by_cases h2 : 0 ≤ v ∧ v < 2 ^ (s 1).toNat
  case neg => rw [if_pos h1, if_neg h2, if_neg (fun z => h2 z.2.1)]
  rw [if_pos h1, if_pos h2]
  by_cases h3 : bi v o = 0
  · rw [if_pos (show am_and (am_shr v o) 1 = 0 from h3), if_pos ⟨h1, h2, h3⟩]
  · rw [if_neg (show ¬ am_and (am_shr v o) 1 = 0 from h3), if_neg (fun z => h3 z.2.2)]
theorem m_249 (r : RM g s) (hi : Iv N s) (v : Int) : MI X (d + 1) 249 [.inr (.inr 143), .inl v] S0 (ov g) = some (b2i (0 ≤ v ∧ v < 2 ^ (s 1).toNat), S0, ov g) := by
  obtain ⟨i0, i1, i2, i3, -⟩ := id hi
  have a1 : rd g 144 1 = s 1 := r 1 (by omega) (by omega)
  rw [e_249]
  simp (disch := omega) only [↓K_mod, ↓G_mod, ↓al_144 _, a1, ↓oC_of (m_212 _ _ _ _ _), lshl_v i2 i3]
  unfold b2i
  by_cases h : 0 ≤ v ∧ v < 2 ^ (s 1).toNat
  · have h' : 0 ≤ v ∧ v ≤ 2 ^ (s 1).toNat - 1 := by omega
    rw [if_pos h, if_pos h', if_pos (Or.inr rfl)]
  · have h' : ¬ (0 ≤ v ∧ v ≤ 2 ^ (s 1).toNat - 1) := by omega
    rw [if_neg h, if_neg h', if_pos (Or.inl rfl)]
theorem m_250 (v w : Int) (S : Sh) (h : Mem) : MI X d 250 [.inr (.inr 143), .inl v, .inl w] S h = some (b2i (bi v w = 1), S, h) := by
  rw [e_250]
  unfold b2i bi
  by_cases z : am_and (am_shr v w) 1 = 1
  · rw [if_pos z, if_pos z]
  · rw [if_neg z, if_neg z]
theorem m_310 (r : RM g s) (hi : Iv N s) (v o : Int) : MI X (d + 2) 310 [.inr (.inr 143), .inl v, .inl o] S0 (ov g) = some (b2i (arC s v o), S0, ov g) := by
  rw [e_310]
  simp only [↓K_mod, ↓oC_of (m_249 r hi _), ↓oC_of (m_247 r _), ↓oC_of (m_250 _ _ _ _), ↓if_b2i]
  unfold b2i
  by_cases h2 : 0 ≤ v ∧ v < 2 ^ (s 1).toNat
  case neg => rw [if_neg h2, if_neg (fun z => h2 z.2.1)]
  by_cases h1 : 0 ≤ o ∧ o < s 1
  case neg => rw [if_pos h2, if_neg h1, if_neg (fun z => h1 z.1)]
  rw [if_pos h2, if_pos h1]
  have q := bi_01 v o
  by_cases h3 : bi v o = 0
  · rw [if_neg (by omega), if_pos ⟨h1, h2, h3⟩]
  · rw [if_pos (by omega), if_neg (fun z => h3 z.2.2)]
end
