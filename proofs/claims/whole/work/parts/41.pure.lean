/-! PURE STATES: a DAWN is a function of places (as the model lays it): 0 THINGS, 1 MEN, 2 LONG, 3 SUN, 4 GLARE, 5 ODDS, 6 first, 7 second, 8 9 CELLS, 10 TIME, 12 + 4 t THINGS, 44 + 10 m MEN -/
def th (s : Int → Int) (t w : Int) : Int := s (12 + 4 * t + w)
def mn (s : Int → Int) (m w : Int) : Int := s (44 + 10 * m + w)
def us (s : Int → Int) (k x : Int) : Int → Int := fun j => if j = k then x else s j
/-- first of k numbers from m on -/
def ff (p : Int → Bool) : Nat → Int → Int
  | 0, _ => -1
  | k + 1, m => bif p m then m else ff p k (m + 1)
/-- sum over k numbers from m on -/
def su (f : Int → Int) : Nat → Int → Int
  | 0, _ => 0
  | k + 1, m => f m + su f k (m + 1)
/-- set over k numbers from m on -/
def se (p : Int → Bool) : Nat → Int → Int → Int
  | 0, _, a => a
  | k + 1, m, a => se p k (m + 1) (bif p m then am_or a (am_shl 1 m) else am_or a 0)
def beY (s : Int → Int) (t : Int) : Int := if t = -1 then 0 else if th s t 3 < th s t 2 then th s t 2 - th s t 3 else 0
def reN (s : Int → Int) (m : Int) : Int := if 0 < beY s (mn s m 3) then th s (mn s m 3) 0 else 1
def blN (s : Int → Int) (m : Int) : Int := if 0 < beY s (mn s m 3) then mn s m 0 + th s (mn s m 3) 1 else mn s m 0
def hoN (s : Int → Int) (t : Int) : Int := ff (fun m => decide (mn s m 3 = t)) (s 1).toNat 0
def woN (s : Int → Int) (m : Int) : Int := su (fun o => mn s m (4 + o)) (s 1).toNat 0
def loN (s : Int → Int) (m : Int) : Int := su (fun o => mn s o (4 + m)) (s 1).toNat 0
def awN (s : Int → Int) : Int := su (fun m => woN s m) (s 1).toNat 0
def brS (s : Int → Int) : Int := se (fun t => decide (th s t 2 ≤ th s t 3)) (s 0).toNat 0 0
def uhS (s : Int → Int) : Int := se (fun t => decide (hoN s t = -1)) (s 0).toNat 0 0
def liS (s : Int → Int) : Int := se (fun m => decide (0 < mn s m 1)) (s 1).toNat 0 0
def neN (s : Int → Int) : Int := if s 6 = -1 then 0 else s 9 - s 8
/-- the class' DAWN at b is the pure one -/
def RD (g : Mem) (b : Int) (s : Int → Int) : Prop :=
  rd g b 0 = s 0 ∧ rd g b 1 = s 1 ∧ (∀ i, 0 ≤ i → i < 4 → rd g (b + 1) i = s (2 + i)) ∧
  (∀ t, 0 ≤ t → t < s 0 → rd g (b + 2) t = th s t 0 ∧ rd g (b + 3) t = th s t 1 ∧ rd g (b + 4) t = th s t 2 ∧ rd g (b + 5) t = th s t 3) ∧
  (∀ m, 0 ≤ m → m < s 1 → rd g (b + 6) m = mn s m 0 ∧ rd g (b + 7) m = mn s m 1 ∧ rd g (b + 8) m = mn s m 2 ∧ rd g (b + 9) m = mn s m 3) ∧
  (∀ m o, 0 ≤ m → m < s 1 → 0 ≤ o → o < s 1 → rd g (b + 10) (m * 6 + o) = mn s m (4 + o)) ∧
  rd g b 14 = s 6 ∧ (s 6 ≠ -1 → rd g b 15 = s 7 ∧ rd g b 16 = s 8 ∧ rd g b 17 = s 9 ∧ rd g b 18 = s 10)
/-- the model's DAWN is the pure one -/
def RM (g : Mem) (s : Int → Int) : Prop := ∀ i, 0 ≤ i → i < 104 → rd g 144 i = s i
/-- what holds of every DAWN behind calls that together won no more than N DUELS and took no more than N ACTS -/
def Iv (N : Int) (s : Int → Int) : Prop :=
  0 ≤ s 0 ∧ s 0 ≤ 8 ∧ 0 ≤ s 1 ∧ s 1 ≤ 6 ∧ 2 ≤ s 2 ∧ s 2 ≤ 12 ∧ 0 ≤ s 3 ∧ s 3 ≤ 99 ∧ 0 ≤ s 4 ∧ s 4 ≤ 9 ∧ 0 ≤ s 5 ∧ s 5 ≤ 16 ∧
  (∀ t, 0 ≤ t → t < s 0 → 1 ≤ th s t 0 ∧ th s t 0 ≤ 6 ∧ 0 ≤ th s t 1 ∧ th s t 1 ≤ 9 ∧ 1 ≤ th s t 2 ∧ th s t 2 ≤ 30 ∧ 0 ≤ th s t 3 ∧ th s t 3 ≤ th s t 2) ∧
  (∀ m, 0 ≤ m → m < s 1 → 0 ≤ mn s m 0 ∧ mn s m 0 ≤ 9 ∧ 0 ≤ mn s m 1 ∧ mn s m 1 ≤ mn s m 2 ∧ 1 ≤ mn s m 2 ∧ mn s m 2 ≤ 60 ∧ -1 ≤ mn s m 3 ∧ mn s m 3 < s 0) ∧
  (∀ m o, 0 ≤ m → m < s 1 → 0 ≤ o → o < s 1 → 0 ≤ mn s m (4 + o)) ∧ awN s ≤ N ∧
  (∀ m o, 0 ≤ m → m < s 1 → 0 ≤ o → o < s 1 → m ≠ o → mn s m 3 = mn s o 3 → mn s m 3 = -1) ∧
  -1 ≤ s 6 ∧ (s 6 ≠ -1 → 0 ≤ s 6 ∧ s 6 < s 1 ∧ 0 ≤ s 7 ∧ s 7 < s 1 ∧ s 6 ≠ s 7 ∧ 0 < mn s (s 6) 1 ∧ 0 < mn s (s 7) 1 ∧ 0 ≤ s 8 ∧ s 8 < s 9 ∧ s 9 ≤ s 2 ∧ 0 ≤ s 10 ∧ s 10 ≤ N)
theorem su_nn (f : Int → Int) : ∀ (k : Nat) (m : Int), (∀ i, m ≤ i → i < m + k → 0 ≤ f i) → 0 ≤ su f k m
  | 0, _, _ => Int.le_refl 0
  | k + 1, m, h => by
    have h1 := su_nn f k (m + 1) (fun i a b => h i (by omega) (by omega))
    have h2 := h m (by omega) (by omega)
    show 0 ≤ f m + su f k (m + 1)
    omega
theorem su_le (f : Int → Int) : ∀ (k : Nat) (m : Int), (∀ i, m ≤ i → i < m + k → 0 ≤ f i) → ∀ i, m ≤ i → i < m + k → f i ≤ su f k m
  | 0, m, _, i, h1, h2 => by omega
  | k + 1, m, h, i, h1, h2 => by
    show f i ≤ f m + su f k (m + 1)
    have h3 := h m (by omega) (by omega)
    have h4 := su_nn f k (m + 1) (fun i a b => h i (by omega) (by omega))
    by_cases e : i = m
    · subst e; omega
    · have := su_le f k (m + 1) (fun i a b => h i (by omega) (by omega)) i (by omega) (by omega)
      omega
