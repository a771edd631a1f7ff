/-! the least hurt: an order of men, who comes last forgives those ahead -/
def leF (s : Int → Int) : Nat → Int → Int
  | 0, _ => 0
  | k + 1, T => mnF T (fun t => huF s T t (s 1).toNat 0 + leF s k (oI T t)) (s 1).toNat 0 1000000
def leG (s : Int → Int) (k : Nat) (T t : Int) : Int := huF s T t (s 1).toNat 0 + leF s k (oI T t)
theorem leF_s (s : Int → Int) (k : Nat) (T : Int) : leF s (k + 1) T = mnF T (leG s k T) (s 1).toNat 0 1000000 := rfl
theorem mnF_lef (T : Int) (f : Int → Int) : ∀ (k : Nat) (t a i : Int), t ≤ i → i < t + k → bi T i = 0 → mnF T f k t a ≤ f i
  | 0, t, a, i, h1, h2, _ => by omega
  | k + 1, t, a, i, h1, h2, hb => by
    rw [mnF_s]
    by_cases e : i = t
    · subst e
      rw [if_neg (show ¬ bi T i = 1 by omega)]
      have q := mnF_le T f k (i + 1) (am_min a (f i))
      have z : am_min a (f i) ≤ f i := by unfold am_min; split <;> omega
      omega
    · exact mnF_lef T f k (t + 1) _ i (by omega) (by omega) hb
theorem mnF_nn (T : Int) (f : Int → Int) : ∀ (k : Nat) (t a : Int), 0 ≤ a → (∀ i, t ≤ i → i < t + k → 0 ≤ f i) → 0 ≤ mnF T f k t a
  | 0, _, a, h, _ => h
  | k + 1, t, a, h, hf => by
    rw [mnF_s]
    refine mnF_nn T f k (t + 1) _ ?_ (fun i h1 h2 => hf i (by omega) (by omega))
    have z := hf t (by omega) (by omega)
    unfold am_min
    split
    · exact h
    · split <;> omega
theorem su_ad (f h : Int → Int) : ∀ (k : Nat) (m : Int), su (fun i => f i + h i) k m = su f k m + su h k m
  | 0, _ => rfl
  | k + 1, m => by
    have q := su_ad f h k (m + 1)
    show f m + h m + su (fun i => f i + h i) k (m + 1) = f m + su f k (m + 1) + (h m + su h k (m + 1))
    rw [q]; omega
theorem su_0 : ∀ (k : Nat) (m : Int), su (fun _ => 0) k m = 0
  | 0, _ => rfl
  | k + 1, m => by
    show 0 + su (fun _ => 0) k (m + 1) = 0
    rw [su_0 k (m + 1)]; rfl
theorem su_sw (f : Int → Int → Int) (j : Nat) (n : Int) : ∀ (k : Nat) (m : Int), su (fun i => su (fun l => f i l) j n) k m = su (fun l => su (fun i => f i l) k m) j n
  | 0, m => by
    show 0 = su (fun _ => 0) j n
    rw [su_0]
  | k + 1, m => by
    have q := su_sw f j n k (m + 1)
    show su (fun l => f m l) j n + su (fun i => su (fun l => f i l) j n) k (m + 1) = su (fun l => f m l + su (fun i => f i l) k (m + 1)) j n
    rw [q, su_ad]
/-- all the hurts of those in T -/
def tlF (s : Int → Int) (T : Int) : Nat → Int → Int
  | 0, _ => 0
  | k + 1, i => (if bi T i = 1 then loN s i else 0) + tlF s T k (i + 1)
theorem tlF_s (s : Int → Int) (T : Int) (k : Nat) (i : Int) : tlF s T (k + 1) i = (if bi T i = 1 then loN s i else 0) + tlF s T k (i + 1) := rfl
theorem tlF_ne (s : Int → Int) {T t : Int} (T0 : 0 ≤ T) (T1 : T < 64) (t0 : 0 ≤ t) (t1 : t < 6) : ∀ (k : Nat) (i : Int), 0 ≤ i → i + k ≤ 6 → t < i → tlF s (oI T t) k i = tlF s T k i
  | 0, _, _, _, _ => rfl
  | k + 1, i, i0, i1, h => by
    rw [tlF_s, tlF_s, tlF_ne s T0 T1 t0 t1 k (i + 1) (by omega) (by omega) (by omega), bi_oI T0 T1 t0 t1 i0 (by omega), if_neg (show ¬ i = t by omega)]
theorem tlF_add (s : Int → Int) {T t : Int} (T0 : 0 ≤ T) (T1 : T < 64) (t0 : 0 ≤ t) (hb : bi T t = 0) : ∀ (k : Nat) (i : Int), 0 ≤ i → i + k ≤ 6 → i ≤ t → t < i + k → tlF s (oI T t) k i = tlF s T k i + loN s t
  | 0, i, _, _, h1, h2 => by omega
  | k + 1, i, i0, i1, h1, h2 => by
    rw [tlF_s, tlF_s, bi_oI T0 T1 t0 (by omega) i0 (by omega)]
    by_cases e : i = t
    · rw [if_pos e, if_pos rfl, tlF_ne s T0 T1 t0 (by omega) k (i + 1) (by omega) (by omega) (by omega), e, if_neg (show ¬ bi T t = 1 by omega)]
      omega
    · rw [if_neg e, tlF_add s T0 T1 t0 hb k (i + 1) (by omega) (by omega) (by omega) (by omega)]
      omega
theorem tlF_le (s : Int → Int) (T : Int) : ∀ (k : Nat) (i : Int), (∀ j, i ≤ j → j < i + k → 0 ≤ loN s j) → 0 ≤ tlF s T k i ∧ tlF s T k i ≤ su (fun m => loN s m) k i
  | 0, _, _ => by show (0 : Int) ≤ 0 ∧ (0 : Int) ≤ 0; omega
  | k + 1, i, h => by
    have q := tlF_le s T k (i + 1) (fun j a b => h j (by omega) (by omega))
    have z := h i (by omega) (by omega)
    rw [tlF_s]
    show _ ∧ _ ≤ loN s i + su (fun m => loN s m) k (i + 1)
    split <;> omega
section
variable {s : Int → Int} {N : Int}
theorem lo_aw (s : Int → Int) : su (fun m => loN s m) (s 1).toNat 0 = awN s := by
  unfold loN awN woN
  exact su_sw (fun m o => mn s o (4 + m)) (s 1).toNat 0 (s 1).toNat 0
theorem tl_N (hi : Iv N s) (T : Int) : 0 ≤ tlF s T (s 1).toNat 0 ∧ tlF s T (s 1).toNat 0 ≤ N := by
  have i2 := hi.2.2.1
  have ia := hi.2.2.2.2.2.2.2.2.2.2.2.2.2.2.2.1
  have q := tlF_le s T (s 1).toNat 0 (fun j a b => (Iv_lo hi a (by omega)).1)
  rw [lo_aw] at q
  omega
theorem hu_lo (hi : Iv N s) (T m : Int) (h1 : 0 ≤ m) (h2 : m < s 1) : 0 ≤ huF s T m (s 1).toNat 0 ∧ huF s T m (s 1).toNat 0 ≤ loN s m := by
  have i2 := hi.2.2.1
  exact huF_b hi T m h1 h2 (s 1).toNat 0 (by omega) (by omega)
end
