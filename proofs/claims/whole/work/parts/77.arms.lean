/-! arms: the least sum over the men, one thing each -/
def oI (T t : Int) : Int := am_or T (am_shl 1 t)
/-- the least of k from t on, those in T left out -/
def mnF (T : Int) (f : Int → Int) : Nat → Int → Int → Int
  | 0, _, a => a
  | k + 1, t, a => mnF T f k (t + 1) (if bi T t = 1 then a else am_min a (f t))
theorem mnF_s (T : Int) (f : Int → Int) (k : Nat) (t a : Int) : mnF T f (k + 1) t a = mnF T f k (t + 1) (if bi T t = 1 then a else am_min a (f t)) := rfl
/-- from man m on, k of them, the things T taken -/
def arF (nd : Int → Int → Int) (V : Int) (K : Nat) : Nat → Int → Int → Int
  | 0, _, _ => 0
  | k + 1, m, T => if bi V m = 1 then mnF T (fun t => am_min 1000000 (orF (nd m t) + arF nd V K k (m + 1) (oI T t))) K 0 1000000 else arF nd V K k (m + 1) T
def arG (nd : Int → Int → Int) (V : Int) (K k : Nat) (m T t : Int) : Int := am_min 1000000 (orF (nd m t) + arF nd V K k (m + 1) (oI T t))
theorem arF_s (nd : Int → Int → Int) (V : Int) (K k : Nat) (m T : Int) : arF nd V K (k + 1) m T = if bi V m = 1 then mnF T (arG nd V K k m T) K 0 1000000 else arF nd V K k (m + 1) T := rfl
/-- the first thing that comes to M -/
def arT (nd : Int → Int → Int) (V : Int) (K k : Nat) (m T M : Int) (n : Nat) (t : Int) : Int := ff (fun t => decide (bi T t = 0 ∧ arG nd V K k m T t = M)) n t
/-- what man i gets -/
def arA (nd : Int → Int → Int) (V : Int) (K : Nat) : Nat → Int → Int → Int → Int
  | 0, _, _, _ => -1
  | k + 1, m, T, i => if bi V m = 1 then (if i = m then arT nd V K k m T (arF nd V K (k + 1) m T) K 0 else arA nd V K k (m + 1) (oI T (arT nd V K k m T (arF nd V K (k + 1) m T) K 0)) i) else arA nd V K k (m + 1) T i
theorem arA_s (nd : Int → Int → Int) (V : Int) (K k : Nat) (m T i : Int) : arA nd V K (k + 1) m T i = if bi V m = 1 then (if i = m then arT nd V K k m T (arF nd V K (k + 1) m T) K 0 else arA nd V K k (m + 1) (oI T (arT nd V K k m T (arF nd V K (k + 1) m T) K 0)) i) else arA nd V K k (m + 1) T i := rfl
theorem mnF_le (T : Int) (f : Int → Int) : ∀ (k : Nat) (t a : Int), mnF T f k t a ≤ a
  | 0, _, a => Int.le_refl a
  | k + 1, t, a => by
    have q := mnF_le T f k (t + 1) (if bi T t = 1 then a else am_min a (f t))
    rw [mnF_s]
    unfold am_min at q ⊢
    split at q <;> rename_i h
    · rw [if_pos h]; exact q
    · rw [if_neg h]
      split at q <;> rename_i h2
      · rw [if_pos h2]; exact q
      · rw [if_neg h2]; omega
theorem mnF_min (T : Int) (f : Int → Int) : ∀ (k : Nat) (t a c : Int), mnF T f k t (am_min a c) = am_min a (mnF T f k t c)
  | 0, _, _, _ => rfl
  | k + 1, t, a, c => by
    rw [mnF_s, mnF_s]
    by_cases h : bi T t = 1
    · rw [if_pos h, if_pos h]; exact mnF_min T f k (t + 1) a c
    · rw [if_neg h, if_neg h, ← mnF_min T f k (t + 1) a (am_min c (f t))]
      congr 1
      unfold am_min
      (repeat' split) <;> omega
/-- one step, as a least of two -/
theorem mnF_n (T : Int) (f : Int → Int) (k : Nat) (t : Int) (h : bi T t = 0) (hf : f t ≤ 1000000) : mnF T f (k + 1) t 1000000 = am_min (f t) (mnF T f k (t + 1) 1000000) := by
  rw [mnF_s, if_neg (by omega), ← mnF_min]
  congr 1
  unfold am_min
  (repeat' split) <;> omega
theorem mnF_x (T : Int) (f : Int → Int) (k : Nat) (t : Int) (h : bi T t = 1) : mnF T f (k + 1) t 1000000 = mnF T f k (t + 1) 1000000 := by
  rw [mnF_s, if_pos h]
theorem mnF_b (T : Int) (f : Int → Int) (c : Int) (hc : c ≤ 1000000) (hf : ∀ t, (0 ≤ f t ∧ f t ≤ c) ∨ f t = 1000000) : ∀ (k : Nat) (t a : Int), ((0 ≤ a ∧ a ≤ c) ∨ a = 1000000) → ((0 ≤ mnF T f k t a ∧ mnF T f k t a ≤ c) ∨ mnF T f k t a = 1000000)
  | 0, _, _, h => h
  | k + 1, t, a, h => by
    rw [mnF_s]
    refine mnF_b T f c hc hf k (t + 1) _ ?_
    have q := hf t
    unfold am_min
    (repeat' split) <;> omega
theorem arG_b {nd : Int → Int → Int} (hn : ∀ m t, -1 ≤ nd m t ∧ nd m t ≤ 60) (V : Int) (K : Nat) {k : Nat} (m T : Int) (hk : (60 * (k + 1) : Int) ≤ 1000000) (ih : ∀ m T, (0 ≤ arF nd V K k m T ∧ arF nd V K k m T ≤ 60 * k) ∨ arF nd V K k m T = 1000000) (t : Int) : (0 ≤ arG nd V K k m T t ∧ arG nd V K k m T t ≤ 60 * (k + 1)) ∨ arG nd V K k m T t = 1000000 := by
  have q := ih (m + 1) (oI T t)
  have n := hn m t
  unfold arG am_min orF
  (repeat' split) <;> omega
theorem arF_b {nd : Int → Int → Int} (hn : ∀ m t, -1 ≤ nd m t ∧ nd m t ≤ 60) (V : Int) (K : Nat) : ∀ (k : Nat), k ≤ 6 → ∀ (m T : Int), (0 ≤ arF nd V K k m T ∧ arF nd V K k m T ≤ 60 * k) ∨ arF nd V K k m T = 1000000
  | 0, _, m, T => by unfold arF; omega
  | k + 1, hk, m, T => by
    have ih := arF_b hn V K k (by omega)
    rw [arF_s]
    by_cases h : bi V m = 1
    · rw [if_pos h]
      have q := mnF_b T (arG nd V K k m T) (60 * (k + 1)) (by omega) (arG_b hn V K m T (by omega) ih) K 0 1000000 (Or.inr rfl)
      omega
    · rw [if_neg h]
      have q := ih (m + 1) T
      omega
