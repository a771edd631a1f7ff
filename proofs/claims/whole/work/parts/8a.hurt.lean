/-! hurts over a set of men -/
theorem bit_all : ∀ T : Fin 64, ∀ t : Fin 6, ∀ i : Fin 6, bi (oI (T.val : Int) (t.val : Int)) (i.val : Int) = if i.val = t.val then 1 else bi (T.val : Int) (i.val : Int) := by decide +kernel
theorem bi_oI {T t i : Int} (T0 : 0 ≤ T) (T1 : T < 64) (t0 : 0 ≤ t) (t1 : t < 6) (i0 : 0 ≤ i) (i1 : i < 6) : bi (oI T t) i = if i = t then 1 else bi T i := by
  have q := bit_all ⟨T.toNat, by omega⟩ ⟨t.toNat, by omega⟩ ⟨i.toNat, by omega⟩
  simp only [show (T.toNat : Int) = T by omega, show (t.toNat : Int) = t by omega, show (i.toNat : Int) = i by omega] at q
  rw [q]
  by_cases e : i = t
  · rw [if_pos e, if_pos (by omega)]
  · rw [if_neg e, if_neg (by omega)]
/-- what m is hurt by those of T -/
def huF (s : Int → Int) (T m : Int) : Nat → Int → Int
  | 0, _ => 0
  | k + 1, i => (if bi T i = 1 then mn s i (4 + m) else 0) + huF s T m k (i + 1)
theorem huF_s (s : Int → Int) (T m : Int) (k : Nat) (i : Int) : huF s T m (k + 1) i = (if bi T i = 1 then mn s i (4 + m) else 0) + huF s T m k (i + 1) := rfl
theorem huF_ne (s : Int → Int) {T t : Int} (m : Int) (T0 : 0 ≤ T) (T1 : T < 64) (t0 : 0 ≤ t) (t1 : t < 6) : ∀ (k : Nat) (i : Int), 0 ≤ i → i + k ≤ 6 → t < i → huF s (oI T t) m k i = huF s T m k i
  | 0, _, _, _, _ => rfl
  | k + 1, i, i0, i1, h => by
    rw [huF_s, huF_s, huF_ne s m T0 T1 t0 t1 k (i + 1) (by omega) (by omega) (by omega), bi_oI T0 T1 t0 t1 i0 (by omega), if_neg (show ¬ i = t by omega)]
theorem huF_add (s : Int → Int) {T t : Int} (m : Int) (T0 : 0 ≤ T) (T1 : T < 64) (t0 : 0 ≤ t) (hb : bi T t = 0) : ∀ (k : Nat) (i : Int), 0 ≤ i → i + k ≤ 6 → i ≤ t → t < i + k → huF s (oI T t) m k i = huF s T m k i + mn s t (4 + m)
  | 0, i, _, _, h1, h2 => by omega
  | k + 1, i, i0, i1, h1, h2 => by
    rw [huF_s, huF_s, bi_oI T0 T1 t0 (by omega) i0 (by omega)]
    by_cases e : i = t
    · rw [if_pos e, if_pos rfl, huF_ne s m T0 T1 t0 (by omega) k (i + 1) (by omega) (by omega) (by omega), e, if_neg (show ¬ bi T t = 1 by omega)]
      omega
    · rw [if_neg e, huF_add s m T0 T1 t0 hb k (i + 1) (by omega) (by omega) (by omega) (by omega)]
      omega
section
variable {X : Xs} {d : Nat} {g : Mem} {s : Int → Int} {N : Int}
theorem huF_b (hi : Iv N s) (T m : Int) (h1 : 0 ≤ m) (h2 : m < s 1) : ∀ (k : Nat) (i : Int), i + k = s 1 → 0 ≤ i → 0 ≤ huF s T m k i ∧ huF s T m k i ≤ su (fun o => mn s o (4 + m)) k i
  | 0, _, _, _ => by show (0 : Int) ≤ 0 ∧ (0 : Int) ≤ 0; omega
  | k + 1, i, hk, i0 => by
    obtain ⟨j0, j1, j2, j3, -, -, -, -, -, -, -, -, -, -, iw, -⟩ := id hi
    have q := huF_b hi T m h1 h2 k (i + 1) (by omega) (by omega)
    have w := iw i m i0 (by omega) h1 h2
    rw [huF_s]
    show _ ∧ _ ≤ mn s i (4 + m) + su (fun o => mn s o (4 + m)) k (i + 1)
    split <;> omega
theorem m_321_l (r : RM g s) (hi : Iv N s) (T m : Int) (h1 : 0 ≤ m) (h2 : m < s 1) : ∀ (k : Nat) (i z : Int), i + k = s 1 → 0 ≤ i → 0 ≤ z → z + su (fun o => mn s o (4 + m)) k i < 2147483648 → EI X (d + 2) 321 5 [some (.inr (.inr 143)), some (.inl T), some (.inl m), some (.inl z), some (.inl i)] [] S0 (ov g) = some (z + huF s T m k i, S0, ov g) := by
  obtain ⟨j0, j1, j2, j3, -, -, -, -, -, -, -, -, -, -, iw, -⟩ := id hi
  have a1 : rd g 144 1 = s 1 := r 1 (by omega) (by omega)
  intro k
  induction k with
  | zero =>
    intro i z hk i0 z0 z1
    rw [e_321_5]
    simp (disch := omega) only [↓K_mod, ↓G_mod, ↓al_144 _, a1]
    rw [if_neg (show ¬ i < s 1 by omega), show huF s T m 0 i = 0 from rfl, Int.add_zero]
  | succ k ih =>
    intro i z hk i0 z0 z1
    have w := iw i m i0 (by omega) h1 h2
    have b01 := bi_01 T i
    have e : su (fun o => mn s o (4 + m)) (k + 1) i = mn s i (4 + m) + su (fun o => mn s o (4 + m)) k (i + 1) := rfl
    have nn := su_nn (fun o => mn s o (4 + m)) k (i + 1) (fun j a b => iw j m (by omega) (by omega) h1 h2)
    rw [e] at z1
    rw [e_321_5, huF_s]
    simp (disch := omega) only [↓K_mod, ↓G_mod, ↓al_144 _, a1, ↓oC_of (m_250 _ _ _ _), ↓if_b2i]
    rw [if_pos (show i < s 1 by omega), w32_id (x := i + 1) (by omega) (by omega)]
    by_cases hb : bi T i = 1
    · rw [if_pos hb, if_pos hb, w32_id (x := 4 + m) (by omega) (by omega), oC_of (m_252 r i (4 + m) i0 (by omega) (by omega) (by omega)), w32_id (x := z + mn s i (4 + m)) (by omega) (by omega), ih (i + 1) _ (by omega) (by omega) (by omega) (by omega), Int.add_assoc]
    · rw [if_neg hb, if_neg hb, Int.add_zero, w32_id (x := z) (by omega) (by omega), ih (i + 1) _ (by omega) (by omega) (by omega) (by omega), Int.zero_add]
theorem m_321 (r : RM g s) (hi : Iv N s) (hN : N < 2000000000) (T m : Int) (h1 : 0 ≤ m) (h2 : m < s 1) : MI X (d + 2) 321 [.inr (.inr 143), .inl T, .inl m] S0 (ov g) = some (huF s T m (s 1).toNat 0, S0, ov g) := by
  have i2 := hi.2.2.1
  have lo := Iv_lo hi h1 h2
  rw [e_321, m_321_l (d := d) r hi T m h1 h2 (s 1).toNat 0 0 (by omega) (by omega) (by omega) (by show 0 + loN s m < _; omega), Int.zero_add]
end
