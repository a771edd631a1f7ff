/-! the least hurt of the class: depth first, with a bound -/
def leT (s : Int → Int) (k : Nat) (T M : Int) (n : Nat) (t : Int) : Int := ff (fun t => decide (bi T t = 0 ∧ leG s k T t = M)) n t
/-- who stands at i -/
def leA (s : Int → Int) : Nat → Int → Int → Int
  | 0, _, _ => -1
  | k + 1, T, i => if i = s 1 - (k + 1 : Nat) then leT s k T (leF s (k + 1) T) (s 1).toNat 0 else leA s k (oI T (leT s k T (leF s (k + 1) T) (s 1).toNat 0)) i
theorem leA_s (s : Int → Int) (k : Nat) (T i : Int) : leA s (k + 1) T i = if i = s 1 - (k + 1 : Nat) then leT s k T (leF s (k + 1) T) (s 1).toNat 0 else leA s k (oI T (leT s k T (leF s (k + 1) T) (s 1).toNat 0)) i := rfl
theorem leT_x {s : Int → Int} {k : Nat} {T M : Int} {n : Nat} {t : Int} (h : ¬ (bi T t = 0 ∧ leG s k T t = M)) : leT s k T M (n + 1) t = leT s k T M n (t + 1) := by
  show (bif decide (bi T t = 0 ∧ leG s k T t = M) then t else leT s k T M n (t + 1)) = _
  rw [decide_eq_false h, cond_false]
theorem leT_t {s : Int → Int} {k : Nat} {T M : Int} {n : Nat} {t : Int} (h : bi T t = 0 ∧ leG s k T t = M) : leT s k T M (n + 1) t = t := by
  show (bif decide (bi T t = 0 ∧ leG s k T t = M) then t else leT s k T M n (t + 1)) = _
  rw [decide_eq_true h, cond_true]
def Bo (g : Mem) (B : Int) : Prop := rd g 138 1 = (if B = 1000000 then -1 else B)
def Fo (g g' : Mem) : Prop := ∀ c i, 0 ≤ c → 0 ≤ i → (c ≠ 138 ∨ i ≠ 1) → c ≠ 139 → c ≠ 140 → rd g' c i = rd g c i
theorem Fo_tr {g g1 g2 : Mem} (h1 : Fo g g1) (h2 : Fo g1 g2) : Fo g g2 := fun c i a b e f k => (h2 c i a b e f k).trans (h1 c i a b e f k)
theorem Fo_rf (g : Mem) : Fo g g := fun _ _ _ _ _ _ _ => rfl
def F140 (g g' : Mem) : Prop := ∀ c i, 0 ≤ c → (c < 138 ∨ 140 < c) → rd g' c i = rd g c i
/-- who stands ahead, and what he has done to each -/
def Ho (s : Int → Int) (g : Mem) (T : Int) (p : Nat) : Prop := (∀ i : Int, 0 ≤ i → i < p → 0 ≤ rd g 140 i ∧ rd g 140 i < s 1) ∧ ∀ m, 0 ≤ m → m < s 1 → su (fun i => mn s (rd g 140 i) (4 + m)) p 0 = huF s T m (s 1).toNat 0
theorem su_last (f : Int → Int) : ∀ (k : Nat) (m : Int), su f (k + 1) m = su f k m + f (m + k)
  | 0, m => by
    show f m + 0 = 0 + f (m + 0)
    rw [Int.add_zero, Int.add_zero, Int.zero_add]
  | k + 1, m => by
    have q := su_last f k (m + 1)
    show f m + su f (k + 1) (m + 1) = f m + su f k (m + 1) + f (m + (k + 1 : Nat))
    rw [q, show m + 1 + (k : Int) = m + ((k + 1 : Nat) : Int) by omega]
    omega
theorem Ho_add {s : Int → Int} {g g1 : Mem} {T t : Int} {p : Nat} (h : Ho s g T p) (h3 : s 1 ≤ 6) (T0 : 0 ≤ T) (T1 : T < 64) (t0 : 0 ≤ t) (t1 : t < s 1) (hb : bi T t = 0) (e : ∀ i : Int, 0 ≤ i → i < p → rd g1 140 i = rd g 140 i) (et : rd g1 140 p = t) : Ho s g1 (oI T t) (p + 1) := by
  obtain ⟨a, b⟩ := h
  refine ⟨fun i i0 i1 => ?_, fun m m0 m1 => ?_⟩
  · by_cases c : i = p
    · rw [c, et]; omega
    · rw [e i i0 (by omega)]; exact a i i0 (by omega)
  · rw [su_last, huF_add s m T0 T1 t0 hb (s 1).toNat 0 (by omega) (by omega) t0 (by omega), ← b m m0 m1, show (0 : Int) + (p : Int) = p by omega, et]
    congr 1
    refine su_congr _ _ _ _ (fun i x y => ?_)
    show mn s (rd g1 140 i) (4 + m) = mn s (rd g 140 i) (4 + m)
    rw [e i x (by omega)]
section
variable {X : Xs} {d : Nat} {g : Mem} {s : Int → Int} {N : Int}
theorem c_79_l (r : RD g 19 s) (hi : Iv N s) (p m : Int) (p6 : p < 6) (em : rd g 140 p = m) (h1 : 0 ≤ m) (h2 : m < s 1) (hv : ∀ i : Int, 0 ≤ i → i < p → 0 ≤ rd g 140 i ∧ rd g 140 i < s 1) : ∀ (k : Nat) (i z : Int), i + k = p → 0 ≤ i → 0 ≤ z → z + su (fun i => mn s (rd g 140 i) (4 + m)) k i < 2147483648 → EI X (d + 1) 79 5 [some (.inr (.inr 138)), some (.inr (.inr 19)), some (.inl p), some (.inl z), some (.inl i)] [] S0 (ov g) = some (z + su (fun i => mn s (rd g 140 i) (4 + m)) k i, S0, ov g) := by
  have hb := isD19
  obtain ⟨j0, j1, j2, j3, -, -, -, -, -, -, -, -, -, -, iw, -⟩ := id hi
  intro k
  induction k with
  | zero =>
    intro i z hk i0 z0 z1
    rw [e_79_5, if_neg (show ¬ i < p by omega), show su (fun i => mn s (rd g 140 i) (4 + m)) 0 i = 0 from rfl, Int.add_zero]
  | succ k ih =>
    intro i z hk i0 z0 z1
    have v := hv i i0 (by omega)
    have w := iw (rd g 140 i) m v.1 v.2 h1 h2
    have e : su (fun i => mn s (rd g 140 i) (4 + m)) (k + 1) i = mn s (rd g 140 i) (4 + m) + su (fun i => mn s (rd g 140 i) (4 + m)) k (i + 1) := rfl
    have nn := su_nn (fun i => mn s (rd g 140 i) (4 + m)) k (i + 1) (fun j a b => iw _ m (hv j (by omega) (by omega)).1 (hv j (by omega) (by omega)).2 h1 h2)
    rw [e] at z1 ⊢
    rw [e_79_5, if_pos (show i < p by omega)]
    simp (disch := omega) only [↓G_ord, ↓al_140 _, em, ↓K_daw hb, ↓oC_of (c_35 hb r hi _ m v.1 v.2 h1 h2)]
    rw [w32_id (x := z + mn s (rd g 140 i) (4 + m)) (by omega) (by omega), w32_id (x := i + 1) (by omega) (by omega), ih (i + 1) _ (by omega) (by omega) (by omega) (by omega), Int.add_assoc]
theorem c_79 (r : RD g 19 s) (hi : Iv N s) (hN : N < 1000000) {T m : Int} {p : Nat} (p6 : (p : Int) < 6) (ho : Ho s g T p) (em : rd g 140 p = m) (h1 : 0 ≤ m) (h2 : m < s 1) : MI X (d + 1) 79 [.inr (.inr 138), .inr (.inr 19), .inl (p : Int)] S0 (ov g) = some (huF s T m (s 1).toNat 0, S0, ov g) := by
  have q := ho.2 m h1 h2
  have a := hu_lo hi T m h1 h2
  have b := Iv_lo hi h1 h2
  rw [e_79, c_79_l (d := d) r hi p m p6 em h1 h2 ho.1 p 0 0 (by omega) (by omega) (by omega) (by rw [q]; omega), q, Int.zero_add]
end
