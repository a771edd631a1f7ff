/-! faster of the class -/
def cnF (v : Int) : Nat → Int → Int
  | 0, _ => 0
  | k + 1, t => bi v t + cnF v k (t + 1)
def bc1 (v : Int) : Int := w32 (v - (am_and (am_ushr v 1) 1431655765))
def bc2 (x : Int) : Int := w32 ((am_and x 858993459) + (am_and (am_ushr x 2) 858993459))
def bc3 (x : Int) : Int := am_and (w32 (x + (am_ushr x 4))) 252645135
def bc4 (x : Int) : Int := w32 (x + (am_ushr x 8))
def bc5 (x : Int) : Int := w32 (x + (am_ushr x 16))
def bcN (v : Int) : Int := am_and (bc5 (bc4 (bc3 (bc2 (bc1 v))))) 63
theorem bc_all : ∀ v : Fin 256, bcN (v.val : Int) = cnF (v.val : Int) 8 0 := by decide +kernel
theorem bi_nul : ∀ v : Fin 256, ∀ t : Fin 9, (v.val < 2 ^ t.val → bi (v.val : Int) (t.val : Int) = 0) := by decide +kernel
theorem bi_hi {v t : Int} {K : Nat} (v0 : 0 ≤ v) (v1 : v < ((2 ^ K : Nat) : Int)) (hK : K ≤ 8) (t0 : (K : Int) ≤ t) (t1 : t ≤ 8) : bi v t = 0 := by
  have p := pow_256 hK
  have q := bi_nul ⟨v.toNat, by omega⟩ ⟨t.toNat, by omega⟩
  have l : 2 ^ K ≤ 2 ^ t.toNat := Nat.pow_le_pow_right (by decide) (by omega)
  simp only [show (v.toNat : Int) = v by omega, show (t.toNat : Int) = t by omega] at q
  exact q (by omega)
theorem cnF_nul (v : Int) : ∀ (k : Nat) (t : Int), (∀ i, t ≤ i → i < t + k → bi v i = 0) → cnF v k t = 0
  | 0, _, _ => rfl
  | k + 1, t, h => by
    show bi v t + cnF v k (t + 1) = 0
    rw [h t (by omega) (by omega), cnF_nul v k (t + 1) (fun i a b => h i (by omega) (by omega))]
    rfl
theorem cnF_app (v : Int) (m : Nat) : ∀ (k : Nat) (t : Int), cnF v (k + m) t = cnF v k t + cnF v m (t + k)
  | 0, t => by
    rw [Nat.zero_add, show t + ((0 : Nat) : Int) = t by omega]
    show cnF v m t = 0 + cnF v m t
    omega
  | k + 1, t => by
    have q := cnF_app v m k (t + 1)
    rw [show k + 1 + m = (k + m) + 1 by omega]
    show bi v t + cnF v (k + m) (t + 1) = bi v t + cnF v k (t + 1) + cnF v m (t + (k + 1 : Nat))
    rw [q, show t + 1 + (k : Int) = t + ((k + 1 : Nat) : Int) by omega]
    omega
theorem bc_K {v : Int} {K : Nat} (v0 : 0 ≤ v) (v1 : v < ((2 ^ K : Nat) : Int)) (hK : K ≤ 8) : bcN v = cnF v K 0 := by
  have p := pow_256 hK
  have q := bc_all ⟨v.toNat, by omega⟩
  simp only [show (v.toNat : Int) = v by omega] at q
  have a := cnF_app v (8 - K) K 0
  rw [show K + (8 - K) = 8 by omega, cnF_nul v (8 - K) (0 + (K : Int)) (fun i h1 h2 => bi_hi v0 v1 hK (by omega) (by omega))] at a
  rw [q, a]
  omega
theorem cnF_b (v : Int) : ∀ (k : Nat) (t : Int), 0 ≤ cnF v k t ∧ cnF v k t ≤ k
  | 0, _ => by show (0 : Int) ≤ 0 ∧ (0 : Int) ≤ ((0 : Nat) : Int); omega
  | k + 1, t => by
    have q := cnF_b v k (t + 1)
    have b := bi_01 v t
    show 0 ≤ bi v t + cnF v k (t + 1) ∧ bi v t + cnF v k (t + 1) ≤ ((k + 1 : Nat) : Int)
    omega
/-- the pairs where the first needs less -/
def fpB (nd2 : Int → Int) (v n1 : Int) : Nat → Int → Int → Int
  | 0, _, c => c
  | k + 1, y, c => fpB nd2 v n1 k (y + 1) (if bi v y = 1 ∧ (nd2 y = -1 ∨ n1 < nd2 y) then c + 1 else c)
def fpA (nd1 nd2 : Int → Int) (v : Int) (K : Nat) : Nat → Int → Int → Int
  | 0, _, c => c
  | k + 1, x, c => fpA nd1 nd2 v K k (x + 1) (if bi v x = 1 ∧ nd1 x ≠ -1 then fpB nd2 v (nd1 x) K 0 c else c)
theorem fpB_s (nd2 : Int → Int) (v n1 : Int) (k : Nat) (y c : Int) : fpB nd2 v n1 (k + 1) y c = fpB nd2 v n1 k (y + 1) (if bi v y = 1 ∧ (nd2 y = -1 ∨ n1 < nd2 y) then c + 1 else c) := rfl
theorem fpA_s (nd1 nd2 : Int → Int) (v : Int) (K k : Nat) (x c : Int) : fpA nd1 nd2 v K (k + 1) x c = fpA nd1 nd2 v K k (x + 1) (if bi v x = 1 ∧ nd1 x ≠ -1 then fpB nd2 v (nd1 x) K 0 c else c) := rfl
theorem fpB_b (nd2 : Int → Int) (v n1 : Int) : ∀ (k : Nat) (y c : Int), c ≤ fpB nd2 v n1 k y c ∧ fpB nd2 v n1 k y c ≤ c + k
  | 0, _, c => by show c ≤ c ∧ c ≤ c + ((0 : Nat) : Int); omega
  | k + 1, y, c => by
    have q := fpB_b nd2 v n1 k (y + 1) (if bi v y = 1 ∧ (nd2 y = -1 ∨ n1 < nd2 y) then c + 1 else c)
    rw [fpB_s]
    split at q <;> rename_i h
    · rw [if_pos h]; omega
    · rw [if_neg h]; omega
theorem fpA_b (nd1 nd2 : Int → Int) (v : Int) (K : Nat) (hK : K ≤ 8) : ∀ (k : Nat) (x c : Int), c ≤ fpA nd1 nd2 v K k x c ∧ fpA nd1 nd2 v K k x c ≤ c + 8 * k
  | 0, _, c => by show c ≤ c ∧ c ≤ c + 8 * ((0 : Nat) : Int); omega
  | k + 1, x, c => by
    have q := fpA_b nd1 nd2 v K hK k (x + 1) (if bi v x = 1 ∧ nd1 x ≠ -1 then fpB nd2 v (nd1 x) K 0 c else c)
    have b := fpB_b nd2 v (nd1 x) K 0 c
    rw [fpA_s]
    split at q <;> rename_i h
    · rw [if_pos h]; omega
    · rw [if_neg h]; omega
section
variable {X : Xs} {d : Nat} {g : Mem} {s : Int → Int} {b N : Int}
theorem j_339 (v : Int) (S : Sh) (h : Mem) : MI X d 339 [.inl v] S h = some (bcN v, S, h) := (e_339 X d v S h).trans rfl
theorem c_62_i (r : RD g 19 s) (hi : Iv N s) (m o v x n1 : Int) (h1 : 0 ≤ m) (h2 : m < s 1) (h3 : 0 ≤ o) (h4 : o < s 1) (x0 : 0 ≤ x) (x1 : x < s 0) (n0 : n1 ≠ -1) : ∀ (k : Nat) (y c : Int), y + k = s 0 → 0 ≤ y → 0 ≤ c → c ≤ 100 - k → EI X (d + 2) 62 41 [some (.inr (.inr 19)), some (.inl m), some (.inl o), some (.inl v), some (.inl c), some (.inl x), some (.inl n1), some (.inl y), none] [] S0 (ov g) = EI X (d + 2) 62 6 [some (.inr (.inr 19)), some (.inl m), some (.inl o), some (.inl v), some (.inl (fpB (ndN s o m) v n1 k y c)), some (.inl (x + 1)), none, none, none] [] S0 (ov g) := by
  have hb := isD19
  have r0 := r.1
  have i1 := hi.2.1
  intro k
  induction k with
  | zero =>
    intro y c hk y0 c0 c1
    rw [e_62_41, if_neg n0]
    simp only [↓G_daw hb, r0]
    rw [if_neg (show ¬ y < s 0 by omega), w32_id (by omega) (by omega)]
    rfl
  | succ k ih =>
    intro y c hk y0 c0 c1
    have b01 := bi_01 v y
    have q := c_55 (X := X) (d := d) hb r hi o m y h3 h4 h1 h2 (by omega) (by omega)
    have z := ih (y + 1) (if bi v y = 1 ∧ (ndN s o m y = -1 ∨ n1 < ndN s o m y) then c + 1 else c) (by omega) (by omega) (by split <;> omega) (by split <;> omega)
    rw [← fpB_s] at z
    rw [← z, e_62_41, if_neg n0]
    simp only [↓G_daw hb, r0]
    rw [if_pos (show y < s 0 by omega), w32_id (x := y + 1) (by omega) (by omega)]
    by_cases e1 : bi v y = 0
    · rw [if_pos (show am_and (am_shr v y) 1 = 0 from e1), if_neg (show ¬ (bi v y = 1 ∧ (ndN s o m y = -1 ∨ n1 < ndN s o m y)) by omega)]
    rw [if_neg (show ¬ am_and (am_shr v y) 1 = 0 from e1), oC_of q]
    by_cases e2 : ndN s o m y = -1
    · rw [if_pos e2, if_pos (show bi v y = 1 ∧ (ndN s o m y = -1 ∨ n1 < ndN s o m y) by omega), w32_id (by omega) (by omega)]
    rw [if_neg e2]
    by_cases e3 : n1 < ndN s o m y
    · rw [if_pos e3, if_pos (show bi v y = 1 ∧ (ndN s o m y = -1 ∨ n1 < ndN s o m y) by omega), w32_id (by omega) (by omega)]
    · rw [if_neg e3, if_neg (show ¬ (bi v y = 1 ∧ (ndN s o m y = -1 ∨ n1 < ndN s o m y)) by omega), Int.add_zero, w32_id (by omega) (by omega)]
theorem c_62_o (r : RD g 19 s) (hi : Iv N s) (m o v : Int) (h1 : 0 ≤ m) (h2 : m < s 1) (h3 : 0 ≤ o) (h4 : o < s 1) : ∀ (k : Nat) (x c : Int), x + k = s 0 → 0 ≤ x → 0 ≤ c → c ≤ 8 * x → EI X (d + 2) 62 6 [some (.inr (.inr 19)), some (.inl m), some (.inl o), some (.inl v), some (.inl c), some (.inl x), none, none, none] [] S0 (ov g) = some (fpA (ndN s m o) (ndN s o m) v (s 0).toNat k x c, S0, ov g) := by
  have hb := isD19
  have r0 := r.1
  have i0 := hi.1
  have i1 := hi.2.1
  intro k
  induction k with
  | zero =>
    intro x c hk x0 c0 c1
    rw [e_62_6]
    simp only [↓G_daw hb, r0]
    rw [if_neg (show ¬ x < s 0 by omega)]
    rfl
  | succ k ih =>
    intro x c hk x0 c0 c1
    have b01 := bi_01 v x
    have q := c_55 (X := X) (d := d) hb r hi m o x h1 h2 h3 h4 (by omega) (by omega)
    rw [e_62_6]
    simp only [↓G_daw hb, r0]
    rw [if_pos (show x < s 0 by omega), fpA_s]
    by_cases e1 : bi v x = 0
    · rw [if_pos (show am_and (am_shr v x) 1 = 0 from e1), e_62_41, if_pos rfl, if_neg (show ¬ (bi v x = 1 ∧ ndN s m o x ≠ -1) by omega), w32_id (by omega) (by omega)]
      exact ih _ _ (by omega) (by omega) c0 (by omega)
    rw [if_neg (show ¬ am_and (am_shr v x) 1 = 0 from e1), oC_of q]
    by_cases e2 : ndN s m o x = -1
    · rw [e_62_41, if_pos e2, if_neg (show ¬ (bi v x = 1 ∧ ndN s m o x ≠ -1) by omega), w32_id (by omega) (by omega)]
      exact ih _ _ (by omega) (by omega) c0 (by omega)
    · have bb := fpB_b (ndN s o m) v (ndN s m o x) (s 0).toNat 0 c
      rw [c_62_i (d := d) r hi m o v x _ h1 h2 h3 h4 x0 (by omega) e2 (s 0).toNat 0 c (by omega) (by omega) c0 (by omega), if_pos (show bi v x = 1 ∧ ndN s m o x ≠ -1 by omega)]
      exact ih _ _ (by omega) (by omega) (by omega) (by omega)
end
