/-! the least hurt: its bounds; the model's table -/
theorem cnF_s (v : Int) (k : Nat) (t : Int) : cnF v (k + 1) t = bi v t + cnF v k (t + 1) := rfl
theorem cnF_ne {T t : Int} (T0 : 0 ≤ T) (T1 : T < 64) (t0 : 0 ≤ t) (t1 : t < 6) : ∀ (k : Nat) (i : Int), 0 ≤ i → i + k ≤ 6 → t < i → cnF (oI T t) k i = cnF T k i
  | 0, _, _, _, _ => rfl
  | k + 1, i, i0, i1, h => by
    rw [cnF_s, cnF_s, cnF_ne T0 T1 t0 t1 k (i + 1) (by omega) (by omega) (by omega), bi_oI T0 T1 t0 t1 i0 (by omega), if_neg (show ¬ i = t by omega)]
theorem cnF_add {T t : Int} (T0 : 0 ≤ T) (T1 : T < 64) (t0 : 0 ≤ t) (hb : bi T t = 0) : ∀ (k : Nat) (i : Int), 0 ≤ i → i + k ≤ 6 → i ≤ t → t < i + k → cnF (oI T t) k i = cnF T k i + 1
  | 0, i, _, _, h1, h2 => by omega
  | k + 1, i, i0, i1, h1, h2 => by
    rw [cnF_s, cnF_s, bi_oI T0 T1 t0 (by omega) i0 (by omega)]
    by_cases e : i = t
    · rw [if_pos e, cnF_ne T0 T1 t0 (by omega) k (i + 1) (by omega) (by omega) (by omega), e, hb]
      omega
    · rw [if_neg e, cnF_add T0 T1 t0 hb k (i + 1) (by omega) (by omega) (by omega) (by omega)]
      omega
theorem cn_ex (v : Int) : ∀ (k : Nat) (t : Int), cnF v k t < k → ∃ i, t ≤ i ∧ i < t + k ∧ bi v i = 0
  | 0, t, h => by
    have : cnF v 0 t = 0 := rfl
    omega
  | k + 1, t, h => by
    rw [cnF_s] at h
    have b := bi_01 v t
    by_cases e : bi v t = 0
    · exact ⟨t, by omega, by omega, e⟩
    · obtain ⟨i, h1, h2, h3⟩ := cn_ex v k (t + 1) (by omega)
      exact ⟨i, by omega, by omega, h3⟩
theorem pow_64 {n : Nat} (h : n ≤ 6) : 2 ^ n ≤ 64 := Nat.pow_le_pow_right (n := 2) (by decide) h
section
variable {X : Xs} {d : Nat} {g : Mem} {s : Int → Int} {N : Int}
theorem leF_nn (hi : Iv N s) : ∀ (k : Nat) (T : Int), 0 ≤ leF s k T
  | 0, _ => Int.le_refl 0
  | k + 1, T => by
    have i2 := hi.2.2.1
    rw [leF_s]
    refine mnF_nn T _ (s 1).toNat 0 1000000 (by omega) (fun i h1 h2 => ?_)
    have a := hu_lo hi T i h1 (by omega)
    have b := leF_nn hi k (oI T i)
    unfold leG
    omega
theorem leF_b (hi : Iv N s) : ∀ (k : Nat) (T : Int), 0 ≤ T → T < ((2 ^ (s 1).toNat : Nat) : Int) → cnF T (s 1).toNat 0 + k = s 1 → leF s k T ≤ N - tlF s T (s 1).toNat 0
  | 0, T, _, _, _ => by
    have q := tl_N hi T
    show 0 ≤ _
    omega
  | k + 1, T, T0, T1, h => by
    have i2 := hi.2.2.1
    have i3 := hi.2.2.2.1
    have p6 := pow_64 (n := (s 1).toNat) (by omega)
    obtain ⟨t, h1, h2, h3⟩ := cn_ex T (s 1).toNat 0 (by omega)
    have ob := oI_b (T := T) (t := t) (K := (s 1).toNat) (by omega) T0 T1 h1 (by omega)
    have ca := cnF_add (T := T) (t := t) T0 (by omega) h1 h3 (s 1).toNat 0 (by omega) (by omega) (by omega) h2
    have ta := tlF_add s (T := T) (t := t) T0 (by omega) h1 h3 (s 1).toNat 0 (by omega) (by omega) (by omega) h2
    have ih := leF_b hi k (oI T t) ob.1 ob.2 (by omega)
    have a := hu_lo hi T t h1 (by omega)
    have m := mnF_lef T (leG s k T) (s 1).toNat 0 1000000 t h1 h2 h3
    have e : leG s k T t = huF s T t (s 1).toNat 0 + leF s k (oI T t) := rfl
    rw [leF_s]
    omega
/-- the least of all -/
def leN (s : Int → Int) : Int := leF s (s 1).toNat 0
end
