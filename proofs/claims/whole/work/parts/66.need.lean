/-! acts, reached; NEEDS of both -/
/-- BLOWS until LIFE is gone: k of 60 left, n given -/
def ndF (st w be : Int) : Nat → Int → Int → Int
  | 0, l, n => if 0 < l then -1 else n
  | k + 1, l, n => if 0 < l then ndF st w be k (l - (if n < be then st + w else st)) (n + 1) else n
def ndN (s : Int → Int) (m o t : Int) : Int := ndF (mn s m 0) (if 0 < beY s t then th s t 1 else 0) (beY s t) 60 (mn s o 1) 0
/-- as the model tells it -/
def orF (x : Int) : Int := if x = -1 then 1000000 else x
theorem ndF_rng (st w be : Int) : ∀ (k : Nat) (l n : Int), 0 ≤ n → n + k = 60 → -1 ≤ ndF st w be k l n ∧ ndF st w be k l n ≤ 60
  | 0, l, n, h0, h1 => by
    unfold ndF
    split <;> omega
  | k + 1, l, n, h0, h1 => by
    unfold ndF
    split
    · exact ndF_rng st w be k _ (n + 1) (by omega) (by omega)
    · omega
theorem ndF_never (w be : Int) : ∀ (k : Nat) (l n : Int), 0 < l → be ≤ n → ndF 0 w be k l n = -1
  | 0, l, n, h0, h1 => by
    unfold ndF
    exact if_pos h0
  | k + 1, l, n, h0, h1 => by
    unfold ndF
    rw [if_pos h0, if_neg (by omega), Int.sub_zero]
    exact ndF_never w be k l (n + 1) h0 (by omega)
section
variable {X : Xs} {d : Nat} {g : Mem} {s : Int → Int} {b N : Int}
theorem c_55_l (st w be : Int) (h1 : 0 ≤ st) (h2 : st ≤ 9) (h3 : 0 ≤ w) (h4 : w ≤ 9) : ∀ (k : Nat) (l n : Int), 0 ≤ n → n + k = 60 → -20 ≤ l → l ≤ 60 → EI X (d + 1) 55 43 [none, none, none, none, some (.inl st), some (.inl be), some (.inl w), some (.inl l), some (.inl n)] [] S0 (ov g) = some (ndF st w be k l n, S0, ov g) := by
  intro k
  induction k with
  | zero =>
    intro l n a1 a2 a3 a4
    rw [e_55_43]
    unfold ndF
    by_cases z : 0 < l
    · simp (disch := omega) only [↓if_pos, ↓if_neg]
    · simp (disch := omega) only [↓if_neg]
  | succ k ih =>
    intro l n a1 a2 a3 a4
    rw [e_55_43]
    unfold ndF
    by_cases z : 0 < l
    · by_cases y : n < be
      · rw [if_pos z, if_pos (show n < 60 by omega), if_pos y, if_pos z, if_pos y, w32_id (x := st + w) (by omega) (by omega), w32_id (x := l - (st + w)) (by omega) (by omega), w32_id (x := n + 1) (by omega) (by omega)]
        exact ih _ _ (by omega) (by omega) (by omega) (by omega)
      · rw [if_pos z, if_pos (show n < 60 by omega), if_neg y, if_pos z, if_neg y, w32_id (x := l - st) (by omega) (by omega), w32_id (x := n + 1) (by omega) (by omega)]
        exact ih _ _ (by omega) (by omega) (by omega) (by omega)
    · simp (disch := omega) only [↓if_neg]
theorem c_55 (hb : isD b) (r : RD g b s) (hi : Iv N s) (m o t : Int) (h1 : 0 ≤ m) (h2 : m < s 1) (h3 : 0 ≤ o) (h4 : o < s 1) (h5 : -1 ≤ t) (h6 : t < s 0) : MI X (d + 1) 55 [.inr (.inr b), .inl m, .inl o, .inl t] S0 (ov g) = some (ndN s m o t, S0, ov g) := by
  have hr := r
  obtain ⟨r0, r1, r2, rt, rm, rw', r6, r7⟩ := r
  obtain ⟨i0, i1, i2, i3, j2, j3, j4, j5, j6, j7, j8, j9, it, im, -⟩ := id hi
  have m1 := im m h1 h2
  have m2 := im o h3 h4
  have bz := (be_rng hi h5 h6).2.2.2
  rw [e_55]
  unfold ndN
  simp (disch := omega) only [↓K_daw hb, ↓G_daw hb, ↓al_D1 _ hb, ↓al_D2 _ hb, ↓al_D3 _ hb, ↓al_D4 _ hb, ↓al_D5 _ hb, ↓al_D6 _ hb, ↓al_D7 _ hb, ↓al_D8 _ hb, ↓al_D9 _ hb, ↓al_D10 _ hb, rm, ↓oC_of (c_29 hb hr hi _ _ _)]
  by_cases z : 0 < beY s t
  · have z1 := bz z
    have t1 := it t (by omega) h6
    rw [if_pos z, if_pos z]
    (try simp (disch := omega) only [↓K_daw hb, ↓G_daw hb, ↓al_D1 _ hb, ↓al_D2 _ hb, ↓al_D3 _ hb, ↓al_D4 _ hb, ↓al_D5 _ hb, ↓al_D6 _ hb, ↓al_D7 _ hb, ↓al_D8 _ hb, ↓al_D9 _ hb, ↓al_D10 _ hb, rm, rt])
    exact c_55_l _ _ _ (by omega) (by omega) (by omega) (by omega) 60 _ 0 (by omega) (by omega) (by omega) (by omega)
  · rw [if_neg z, if_neg z]
    (try simp (disch := omega) only [↓K_daw hb, ↓G_daw hb, ↓al_D1 _ hb, ↓al_D2 _ hb, ↓al_D3 _ hb, ↓al_D4 _ hb, ↓al_D5 _ hb, ↓al_D6 _ hb, ↓al_D7 _ hb, ↓al_D8 _ hb, ↓al_D9 _ hb, ↓al_D10 _ hb, rm])
    exact c_55_l _ _ _ (by omega) (by omega) (by omega) (by omega) 60 _ 0 (by omega) (by omega) (by omega) (by omega)
theorem m_300_l (r : RM g s) (m t w be wn : Int) (h1 : 0 ≤ m) (h2 : m < 6) (ht : t = 8 ∨ (0 ≤ t ∧ t < 8)) (h3 : 0 ≤ mn s m 0) (h4 : mn s m 0 ≤ 9) (hw : 0 ≤ w) (hw9 : w ≤ 9) (hb : 0 ≤ be) (hb30 : be ≤ 30) (w0 : 0 ≤ wn) (w1 : wn ≤ 30)
    (hbe : t = 8 → be = 0) (hbt : t ≠ 8 → (be = th s t 2 - wn) ∧ (0 < be → th s t 1 = w) ∧ 0 ≤ th s t 1 ∧ th s t 1 ≤ 9) : ∀ (k : Nat) (l n : Int), 0 ≤ n → n + k = 60 → -20 ≤ l → l ≤ 60 → (1 ≤ mn s m 0 → l ≤ 60 - n) → EI X (d + 3) 300 29 [some (.inr (.inr 143)), some (.inl m), none, some (.inl t), some (.inl l), some (.inl (wn + n)), some (.inl n), none, none] [] S0 (ov g) = some (orF (ndF (mn s m 0) w be k l n), S0, ov g) := by
  intro k
  induction k with
  | zero =>
    intro l n a1 a2 a3 a4 a5
    rw [e_300_29]
    by_cases z : 0 < l
    · have s0 : mn s m 0 = 0 := by omega
      have nv : ndF (mn s m 0) w be 0 l n = -1 := by rw [s0]; exact ndF_never w be 0 l n z (by omega)
      rw [if_pos z, nv]
      by_cases t8 : t = 8
      · simp (disch := omega) only [↓K_mod, ↓if_pos, ↓oC_of (m_252 r _ _ _ _ _ _), s0, w32_id]
        rfl
      · have := hbt t8
        simp (disch := omega) only [↓K_mod, ↓if_pos, ↓if_neg, ↓oC_of (m_252 r _ _ _ _ _ _), ↓oC_of (m_251 r _ _ _ _ _ _), s0, w32_id]
        rfl
    · have nv : ndF (mn s m 0) w be 0 l n = n := if_neg z
      rw [if_neg z, nv]
      have : orF n = n := if_neg (by omega)
      rw [this]
  | succ k ih =>
    intro l n a1 a2 a3 a4 a5
    rw [e_300_29]
    by_cases z : 0 < l
    case neg =>
      have nv : ndF (mn s m 0) w be (k + 1) l n = n := by unfold ndF; exact if_neg z
      rw [if_neg z, nv]
      have : orF n = n := if_neg (by omega)
      rw [this]
    rw [if_pos z]
    have nvS : mn s m 0 = 0 → be ≤ n → ndF (mn s m 0) w be (k + 1) l n = -1 := fun s0 hb => by rw [s0]; exact ndF_never w be (k + 1) l n z hb
    have nx : ndF (mn s m 0) w be (k + 1) l n = ndF (mn s m 0) w be k (l - (if n < be then mn s m 0 + w else mn s m 0)) (n + 1) := by
      rw [ndF, if_pos z]
    by_cases t8 : t = 8
    · have hb0 := hbe t8
      by_cases s0 : mn s m 0 = 0
      · rw [nvS s0 (by omega)]
        simp (disch := omega) only [↓K_mod, ↓if_pos, ↓oC_of (m_252 r _ _ _ _ _ _), s0, w32_id]
        rfl
      · rw [nx, if_neg (show ¬ n < be by omega), ← ih (l - mn s m 0) (n + 1) (by omega) (by omega) (by omega) (by omega) (by omega)]
        simp (disch := omega) only [↓K_mod, ↓if_pos, ↓if_neg, ↓oC_of (m_252 r _ _ _ _ _ _), w32_id, Int.add_zero, Int.add_assoc]
    · have q := hbt t8
      by_cases y : n < be
      · have q1 := q.2.1 (by omega)
        rw [nx, if_pos y, ← ih (l - (mn s m 0 + w)) (n + 1) (by omega) (by omega) (by omega) (by omega) (by omega)]
        have e1 : (if w32 (mn s m 0 + th s t 1) = 0 then (1 : Int) else 1) = 1 := by split <;> rfl
        simp (disch := omega) only [↓K_mod, ↓if_neg, ↓oC_of (m_251 r _ _ _ _ _ _), ↓if_pos, ↓oC_of (m_252 r _ _ _ _ _ _), w32_id, q1, Int.reduceEq, ↓reduceIte, ite_self, Int.add_assoc]
      · by_cases s0 : mn s m 0 = 0
        · rw [nvS s0 (by omega)]
          simp (disch := omega) only [↓K_mod, ↓if_pos, ↓if_neg, ↓oC_of (m_252 r _ _ _ _ _ _), ↓oC_of (m_251 r _ _ _ _ _ _), s0, w32_id]
          rfl
        · rw [nx, if_neg y, ← ih (l - mn s m 0) (n + 1) (by omega) (by omega) (by omega) (by omega) (by omega)]
          simp (disch := omega) only [↓K_mod, ↓if_pos, ↓if_neg, ↓oC_of (m_252 r _ _ _ _ _ _), ↓oC_of (m_251 r _ _ _ _ _ _), w32_id, Int.add_zero, Int.add_assoc]
/-- the model tells none by 8 -/
def asM (t : Int) : Int := if t = -1 then 8 else t
theorem m_300 (r : RM g s) (hi : Iv N s) (m o t : Int) (h1 : 0 ≤ m) (h2 : m < s 1) (h3 : 0 ≤ o) (h4 : o < s 1) (h5 : -1 ≤ t) (h6 : t < s 0) : MI X (d + 3) 300 [.inr (.inr 143), .inl m, .inl o, .inl (asM t)] S0 (ov g) = some (orF (ndN s m o t), S0, ov g) := by
  obtain ⟨i0, i1, i2, i3, j2, j3, j4, j5, j6, j7, j8, j9, it, im, -⟩ := id hi
  have m1 := im m h1 h2
  have m2 := im o h3 h4
  have bz := be_rng hi h5 h6
  rw [e_300]
  unfold ndN asM
  simp only [↓K_mod, ↓oC_of (m_252 r o 1 h3 (by omega) (by omega) (by omega))]
  by_cases e : t = -1
  · rw [if_pos e, if_pos rfl, e, be_none, if_neg (by decide)]
    exact m_300_l r m 8 0 0 0 h1 (by omega) (Or.inl rfl) (by omega) (by omega) (by omega) (by omega) (by omega) (by omega) (by omega) (by omega) (fun _ => rfl) (fun z => absurd rfl z) 60 _ 0 (by omega) (by omega) (by omega) (by omega) (by omega)
  · have t1 := it t (by omega) h6
    have b1 := bz.2.2.1 e
    rw [if_neg e, if_neg (show ¬ t = 8 by omega)]
    simp only [↓K_mod, ↓oC_of (m_251 r t 3 (by omega) (by omega) (by omega) (by omega))]
    have q := m_300_l (X := X) (d := d) r m t (if 0 < beY s t then th s t 1 else 0) (beY s t) (th s t 3) h1 (by omega) (Or.inr ⟨by omega, by omega⟩) (by omega) (by omega) (by split <;> omega) (by split <;> omega) (by omega) (by omega) (by omega) (by omega) (fun z => by omega) (fun _ => ⟨by omega, fun z => by rw [if_pos z], by omega, by omega⟩) 60 (mn s o 1) 0 (by omega) (by omega) (by omega) (by omega) (by omega)
    rw [Int.add_zero] at q
    exact q
end
