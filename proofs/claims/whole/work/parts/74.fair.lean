/-! fair of both -/
theorem pk_all : ∀ a : Fin 61, ∀ x : Fin 8, ∀ y : Fin 8, am_or (am_or (am_shl (a.val : Int) 6) (am_shl (x.val : Int) 3)) (y.val : Int) = (a.val : Int) * 64 + (x.val : Int) * 8 + (y.val : Int) := by decide +kernel
theorem pk {a x y : Int} (a0 : 0 ≤ a) (a1 : a < 61) (x0 : 0 ≤ x) (x1 : x < 8) (y0 : 0 ≤ y) (y1 : y < 8) : am_or (am_or (am_shl a 6) (am_shl x 3)) y = a * 64 + x * 8 + y := by
  have q := pk_all ⟨a.toNat, by omega⟩ ⟨x.toNat, by omega⟩ ⟨y.toNat, by omega⟩
  simp only [show (a.toNat : Int) = a by omega, show (x.toNat : Int) = x by omega, show (y.toNat : Int) = y by omega] at q
  exact q
theorem am_shr_6 {a : Int} (h0 : 0 ≤ a) (h1 : a < 2147483648) : am_shr a 6 = a / 64 := am_shr_n a 6 (by decide +kernel) h0 h1
theorem am_shr_3 {a : Int} (h0 : 0 ≤ a) (h1 : a < 2147483648) : am_shr a 3 = a / 8 := am_shr_n a 3 (by decide +kernel) h0 h1
def frV (n1 n2 x y : Int) : Int := (if n1 < n2 then n2 - n1 else n1 - n2) * 64 + x * 8 + y
def frU (n2 n1 x y c : Int) : Int := if y = x ∨ n2 = -1 then c else if c = -1 then frV n1 n2 x y else am_min c (frV n1 n2 x y)
def frI (nd2 : Int → Int) (n1 x : Int) : Nat → Int → Int → Int
  | 0, _, c => c
  | k + 1, y, c => frI nd2 n1 x k (y + 1) (frU (nd2 y) n1 x y c)
def frO (nd1 nd2 : Int → Int) (K : Nat) : Nat → Int → Int → Int
  | 0, _, c => c
  | k + 1, x, c => frO nd1 nd2 K k (x + 1) (if nd1 x = -1 then c else frI nd2 (nd1 x) x K 0 c)
theorem frI_s (nd2 : Int → Int) (n1 x : Int) (k : Nat) (y c : Int) : frI nd2 n1 x (k + 1) y c = frI nd2 n1 x k (y + 1) (frU (nd2 y) n1 x y c) := rfl
theorem frO_s (nd1 nd2 : Int → Int) (K k : Nat) (x c : Int) : frO nd1 nd2 K (k + 1) x c = frO nd1 nd2 K k (x + 1) (if nd1 x = -1 then c else frI nd2 (nd1 x) x K 0 c) := rfl
/-- the packed one, before the place p -/
abbrev frB (p c : Int) : Prop := c = -1 ∨ (0 ≤ c ∧ c < 3904 ∧ c % 64 < p)
theorem frU_b {n2 n1 x y c p : Int} (h1 : 0 ≤ n1) (h2 : n1 ≤ 60) (h3 : -1 ≤ n2) (h4 : n2 ≤ 60) (x0 : 0 ≤ x) (x1 : x < 8) (y0 : 0 ≤ y) (y1 : y < 8) (hp : x * 8 + y < p) (h : frB (x * 8 + y) c) : frB p (frU n2 n1 x y c) := by
  unfold frU frV am_min
  by_cases e : y = x ∨ n2 = -1
  · rw [if_pos e]; omega
  rw [if_neg e]
  (repeat' split) <;> omega
theorem frI_b {nd2 : Int → Int} {n1 x : Int} (h1 : 0 ≤ n1) (h2 : n1 ≤ 60) (x0 : 0 ≤ x) (x1 : x < 8) (hn : ∀ y, 0 ≤ y → y < 8 → -1 ≤ nd2 y ∧ nd2 y ≤ 60) : ∀ (k : Nat) (y c : Int), 0 ≤ y → y + k ≤ 8 → frB (x * 8 + y) c → frB (x * 8 + y + k) (frI nd2 n1 x k y c)
  | 0, y, c, _, _, h => by unfold frI; omega
  | k + 1, y, c, y0, y1, h => by
    have n := hn y y0 (by omega)
    have q := frI_b h1 h2 x0 x1 hn k (y + 1) (frU (nd2 y) n1 x y c) (by omega) (by omega) (frU_b h1 h2 n.1 n.2 x0 x1 y0 (by omega) (by omega) h)
    rw [frI_s]
    omega
theorem frO_b {nd1 nd2 : Int → Int} {K : Nat} (hK : K ≤ 8) (h1 : ∀ y, 0 ≤ y → y < 8 → -1 ≤ nd1 y ∧ nd1 y ≤ 60) (h2 : ∀ y, 0 ≤ y → y < 8 → -1 ≤ nd2 y ∧ nd2 y ≤ 60) : ∀ (k : Nat) (x c : Int), 0 ≤ x → x + k ≤ 8 → frB (x * 8) c → frB ((x + k) * 8) (frO nd1 nd2 K k x c)
  | 0, x, c, _, _, h => by unfold frO; omega
  | k + 1, x, c, x0, x1, h => by
    have n := h1 x x0 (by omega)
    have e : frB ((x + 1) * 8) (if nd1 x = -1 then c else frI nd2 (nd1 x) x K 0 c) := by
      split
      · omega
      · have q := frI_b (n1 := nd1 x) (x := x) (by omega) n.2 x0 (by omega) h2 K 0 c (by omega) (by omega) (by omega)
        omega
    have q := frO_b hK h1 h2 k (x + 1) _ (by omega) (by omega) e
    rw [frO_s]
    omega
def frC (s : Int → Int) (m o : Int) : Int := frO (ndN s m o) (ndN s o m) (s 0).toNat (s 0).toNat 0 (-1)
def qFair (s : Int → Int) (m o w : Int) : Int × Int := if (0 ≤ m ∧ m < s 1 ∧ 0 ≤ o ∧ o < s 1 ∧ m ≠ o) ∧ (0 ≤ w ∧ w ≤ 2) then (if frC s m o = -1 then (-1, 6) else (if w = 0 then frC s m o / 64 else if w = 1 then frC s m o / 8 % 8 else frC s m o % 8, 0)) else (-1, 1)
section
variable {X : Xs} {d : Nat} {g : Mem} {s : Int → Int} {b N : Int}
theorem ndN_r (hi : Iv N s) {m o : Int} (h3 : 0 ≤ o) (h4 : o < s 1) (t : Int) : -1 ≤ ndN s m o t ∧ ndN s m o t ≤ 60 := ndF_rng _ _ _ 60 _ 0 (by omega) (by omega)
theorem c_58_i (hb : isD b) (r : RD g b s) (hi : Iv N s) (m o x n1 : Int) (h1 : 0 ≤ m) (h2 : m < s 1) (h3 : 0 ≤ o) (h4 : o < s 1) (x0 : 0 ≤ x) (x1 : x < s 0) (n0 : 0 ≤ n1) (n60 : n1 ≤ 60) : ∀ (k : Nat) (y c : Int), y + k = s 0 → 0 ≤ y → frB (x * 8 + y) c → EI X (d + 2) 58 27 [some (.inr (.inr b)), some (.inl m), some (.inl o), some (.inl c), some (.inl x), some (.inl n1), some (.inl y), none, none] [] S0 (ov g) = EI X (d + 2) 58 5 [some (.inr (.inr b)), some (.inl m), some (.inl o), some (.inl (frI (ndN s o m) n1 x k y c)), some (.inl (x + 1)), none, none, none, none] [] S0 (ov g) := by
  have r0 := r.1
  have i1 := hi.2.1
  intro k
  induction k with
  | zero =>
    intro y c hk y0 hc
    rw [e_58_27, if_neg (show ¬ n1 = -1 by omega)]
    simp only [↓G_daw hb, r0]
    rw [if_neg (show ¬ y < s 0 by omega), w32_id (by omega) (by omega)]
    rfl
  | succ k ih =>
    intro y c hk y0 hc
    have n2 := ndN_r hi (m := o) (o := m) h1 h2 y
    have q := c_55 (X := X) (d := d) hb r hi o m y h3 h4 h1 h2 (by omega) (by omega)
    have u := frU_b (n2 := ndN s o m y) (p := x * 8 + (y + 1)) n0 n60 n2.1 n2.2 x0 (by omega) y0 (by omega) (by omega) hc
    have z := ih (y + 1) (frU (ndN s o m y) n1 x y c) (by omega) (by omega) u
    rw [← frI_s] at z
    rw [← z, e_58_27, if_neg (show ¬ n1 = -1 by omega)]
    simp only [↓G_daw hb, r0]
    rw [if_pos (show y < s 0 by omega), oC_of q]
    unfold frU
    by_cases e1 : y = x
    · rw [if_pos e1, if_pos (Or.inl e1), w32_id (by omega) (by omega)]
    rw [if_neg e1]
    by_cases e2 : ndN s o m y = -1
    · rw [if_pos e2, if_pos (Or.inr e2), w32_id (by omega) (by omega)]
    have e3 : ¬ (y = x ∨ ndN s o m y = -1) := by omega
    have av : am_abs (w32 (n1 - ndN s o m y)) = (if n1 < ndN s o m y then ndN s o m y - n1 else n1 - ndN s o m y) := by
      rw [w32_id (by omega) (by omega)]
      unfold am_abs
      by_cases h : n1 < ndN s o m y
      · rw [if_pos h, if_pos (by omega), w32_id (by omega) (by omega)]; omega
      · rw [if_neg h, if_neg (by omega)]
    have pv : am_or (am_or (am_shl (am_abs (w32 (n1 - ndN s o m y))) 6) (am_shl x 3)) y = frV n1 (ndN s o m y) x y := by
      rw [av, pk (by split <;> omega) (by split <;> omega) x0 (by omega) y0 (by omega)]
      rfl
    rw [if_neg e2, if_neg e3, pv, w32_id (by omega) (by omega)]
    by_cases e4 : c = -1
    · rw [if_pos e4, if_pos e4]
    · rw [if_neg e4, if_neg e4]
theorem c_58_o (hb : isD b) (r : RD g b s) (hi : Iv N s) (m o : Int) (h1 : 0 ≤ m) (h2 : m < s 1) (h3 : 0 ≤ o) (h4 : o < s 1) : ∀ (k : Nat) (x c : Int), x + k = s 0 → 0 ≤ x → frB (x * 8) c → EI X (d + 2) 58 5 [some (.inr (.inr b)), some (.inl m), some (.inl o), some (.inl c), some (.inl x), none, none, none, none] [] S0 (ov g) = some (frO (ndN s m o) (ndN s o m) (s 0).toNat k x c, S0, ov g) := by
  have r0 := r.1
  have i0 := hi.1
  have i1 := hi.2.1
  intro k
  induction k with
  | zero =>
    intro x c hk x0 hc
    rw [e_58_5]
    simp only [↓G_daw hb, r0]
    rw [if_neg (show ¬ x < s 0 by omega)]
    rfl
  | succ k ih =>
    intro x c hk x0 hc
    have n1 := ndN_r hi (m := m) (o := o) h3 h4 x
    have q := c_55 (X := X) (d := d) hb r hi m o x h1 h2 h3 h4 (by omega) (by omega)
    rw [e_58_5]
    simp only [↓G_daw hb, r0]
    rw [if_pos (show x < s 0 by omega), oC_of q, frO_s]
    by_cases e : ndN s m o x = -1
    · rw [if_pos e, e_58_27, if_pos e, w32_id (by omega) (by omega)]
      exact ih _ _ (by omega) (by omega) (by omega)
    · rw [if_neg e, c_58_i hb r hi m o x _ h1 h2 h3 h4 x0 (by omega) (by omega) n1.2 (s 0).toNat 0 c (by omega) (by omega) (by omega)]
      have z := frI_b (nd2 := ndN s o m) (n1 := ndN s m o x) (x := x) (by omega) n1.2 x0 (by omega) (fun y _ _ => ndN_r hi h1 h2 y) (s 0).toNat 0 c (by omega) (by omega) (by omega)
      exact ih _ _ (by omega) (by omega) (by omega)
theorem frC_b (hi : Iv N s) {m o : Int} (h1 : 0 ≤ m) (h2 : m < s 1) (h3 : 0 ≤ o) (h4 : o < s 1) : frC s m o = -1 ∨ (0 ≤ frC s m o ∧ frC s m o < 3904) := by
  have i0 := hi.1
  have i1 := hi.2.1
  have z := frO_b (K := (s 0).toNat) (nd1 := ndN s m o) (nd2 := ndN s o m) (by omega) (fun y _ _ => ndN_r hi h3 h4 y) (fun y _ _ => ndN_r hi h1 h2 y) (s 0).toNat 0 (-1) (by omega) (by omega) (Or.inl rfl)
  show frC s m o = -1 ∨ _
  unfold frC
  omega
theorem c_164 (r : RD g 19 s) (hi : Iv N s) (m o w : Int) : AnC g (qFair s m o w) (MI X (d + 3) 164 [.inr (.inr 1), .inl m, .inl o, .inl w] S0 (ov g)) := by
  have i0 := hi.1
  have i1 := hi.2.1
  rw [e_164]
  simp only [↓K_top, ↓G_top, ↓P_top, ↓K_daw isD19, ↓oC_of (c_24 isD19 r _ _), ↓if_b2i]
  unfold qFair
  by_cases ht : 0 ≤ m ∧ m < s 1 ∧ 0 ≤ o ∧ o < s 1 ∧ m ≠ o
  case neg =>
    rw [if_neg ht, if_neg (fun z => ht z.1)]
    exact AnC_no (FC_rf g) 1
  rw [if_pos ht]
  by_cases w1 : w < 0
  · rw [if_pos w1, if_neg (fun z => by omega)]
    exact AnC_no (FC_rf g) 1
  by_cases w2 : 2 < w
  · rw [if_neg w1, if_pos w2, if_neg (fun z => by omega)]
    exact AnC_no (FC_rf g) 1
  have hh : (0 ≤ m ∧ m < s 1 ∧ 0 ≤ o ∧ o < s 1 ∧ m ≠ o) ∧ (0 ≤ w ∧ w ≤ 2) := ⟨ht, by omega⟩
  rw [if_neg w1, if_neg w2, if_pos hh]
  obtain ⟨h1, h2, h3, h4, -⟩ := ht
  have bb := frC_b hi h1 h2 h3 h4
  have q : MI X (d + 2) 58 [.inr (.inr 19), .inl m, .inl o] S0 (ov g) = some (frC s m o, S0, ov g) := by
    rw [e_58, c_58_o isD19 r hi m o h1 h2 h3 h4 (s 0).toNat 0 (-1) (by omega) (by omega) (Or.inl rfl)]
    rfl
  rw [oC_of q]
  by_cases e : frC s m o = -1
  · rw [if_pos e, if_pos e]
    exact AnC_no (FC_rf g) 6
  rw [if_neg e, if_neg e]
  have p1 : MI X (d + 2) 59 [.inl (frC s m o)] S0 (ov g) = some (frC s m o / 64, S0, ov g) := by rw [e_59, am_shr_6 (by omega) (by omega)]
  have p2 : MI X (d + 2) 60 [.inl (frC s m o)] S0 (ov g) = some (frC s m o / 8 % 8, S0, ov g) := by rw [e_60, am_shr_3 (by omega) (by omega), am_and_7]
  have p3 : MI X (d + 2) 61 [.inl (frC s m o)] S0 (ov g) = some (frC s m o % 8, S0, ov g) := by rw [e_61, am_and_7]
  by_cases a0 : w = 0
  · rw [if_pos a0, if_pos a0, oC_of p1]
    exact AnC_tell (FC_rf g) _
  by_cases a1 : w = 1
  · rw [if_neg a0, if_pos a1, if_neg a0, if_pos a1, oC_of p2]
    exact AnC_tell (FC_rf g) _
  · rw [if_neg a0, if_neg a1, if_neg a0, if_neg a1, oC_of p3]
    exact AnC_tell (FC_rf g) _
end
