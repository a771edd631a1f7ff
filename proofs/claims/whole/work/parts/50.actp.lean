/-! AN ACT of a pure DAWN, place by place -/
def ac1 (s : Int → Int) (a t w o : Int) : Int → Int :=
  if a = 0 then us s (44 + 10 * w + 1) (am_min (mn s w 2) (mn s w 1 + 1))
  else if a = 1 then us s (8 + t) (s (8 + t) + (if t = 0 then 1 else -1))
  else if a = 2 then us s (8 + t) (s (8 + t) - (if t = 0 then 1 else -1))
  else if 0 < beY s (mn s w 3) then us (us s (44 + 10 * o + 1) (mn s o 1 - am_min (mn s o 1) (huB (boN s) t))) (12 + 4 * mn s w 3 + 3) (th s (mn s w 3) 3 + 1)
  else us s (44 + 10 * o + 1) (mn s o 1 - am_min (mn s o 1) (huB (boN s) t))
def ac2 (s : Int → Int) (a t w o : Int) : Int → Int := us (ac1 s a t w o) 10 (s 10 + 1)
def enA (s : Int → Int) (w o : Int) : Int → Int := us (us (us s (44 + 10 * w + 4 + o) (s (44 + 10 * w + 4 + o) + 1)) 6 (-1)) 7 (-1)
/-- the state behind an ACT: over if the other one has no LIFE -/
def fin (y : Int → Int) (w o : Int) : Int → Int := if mn y o 1 = 0 then enA y w o else y
def acS (s : Int → Int) (a : Int) : Int → Int := fin (ac2 s a (s 10 % 2) (s (6 + s 10 % 2)) (s (7 - s 10 % 2))) (s (6 + s 10 % 2)) (s (7 - s 10 % 2))
/-- what an ACT does to a DAWN, told by its bout B' -/
def acR (s x : Int → Int) (B' : Int → Int) : Prop :=
  (∀ k, 0 ≤ k → k ≤ 7 → x k = s k) ∧ x 8 = B' 4 ∧ x 9 = B' 5 ∧ x 10 = B' 6 ∧
  (∀ m, 0 ≤ m → m < s 1 → mn x m 0 = mn s m 0 ∧ mn x m 2 = mn s m 2 ∧ mn x m 3 = mn s m 3 ∧ mn x m 1 = if m = s 6 then B' 0 else if m = s 7 then B' 1 else mn s m 1) ∧
  (∀ m o, 0 ≤ m → m < s 1 → 0 ≤ o → o < s 1 → mn x m (4 + o) = mn s m (4 + o)) ∧
  (∀ t, 0 ≤ t → t < s 0 → th x t 0 = th s t 0 ∧ th x t 1 = th s t 1 ∧ th x t 2 = th s t 2 ∧ th x t 3 = if t = mn s (s 6) 3 then th s t 2 - B' 2 else if t = mn s (s 7) 3 then th s t 2 - B' 3 else th s t 3)
theorem sl_k (s : Int → Int) (m x : Int) {k : Int} (h : 0 ≤ m) (hk : k < 44) : us s (44 + 10 * m + 1) x k = s k := us_ne _ _ (by omega)
theorem sl_l (s : Int → Int) (m x i : Int) : mn (us s (44 + 10 * m + 1) x) i 1 = if i = m then x else mn s i 1 := by
  unfold mn
  by_cases e : i = m
  · subst e; rw [if_pos rfl, us_eq]
  · rw [if_neg e, us_ne _ _ (by omega)]
theorem sl_w (s : Int → Int) (m x i : Int) {w : Int} (hw : w = 0 ∨ w = 2 ∨ w = 3) : mn (us s (44 + 10 * m + 1) x) i w = mn s i w := us_ne _ _ (by omega)
theorem sl_n (s : Int → Int) (m x i : Int) {o : Int} (h1 : 0 ≤ o) (h2 : o < 6) : mn (us s (44 + 10 * m + 1) x) i (4 + o) = mn s i (4 + o) := us_ne _ _ (by omega)
theorem sl_t (s : Int → Int) (x : Int) {m t w : Int} (h0 : 0 ≤ m) (h1 : t < 8) (h2 : w < 4) : th (us s (44 + 10 * m + 1) x) t w = th s t w := us_ne _ _ (by omega)
theorem sw_k (s : Int → Int) (t x : Int) {k : Int} (h : 0 ≤ t) (hk : k < 12) : us s (12 + 4 * t + 3) x k = s k := us_ne _ _ (by omega)
theorem sw_m (s : Int → Int) (x : Int) {t m w : Int} (h1 : t < 8) (h2 : 0 ≤ m) (h3 : 0 ≤ w) : mn (us s (12 + 4 * t + 3) x) m w = mn s m w := us_ne _ _ (by omega)
theorem sw_w (s : Int → Int) (t x i : Int) : th (us s (12 + 4 * t + 3) x) i 3 = if i = t then x else th s i 3 := by
  unfold th
  by_cases e : i = t
  · subst e; rw [if_pos rfl, us_eq]
  · rw [if_neg e, us_ne _ _ (by omega)]
theorem sw_o (s : Int → Int) (t x i : Int) {w : Int} (hw : w = 0 ∨ w = 1 ∨ w = 2) : th (us s (12 + 4 * t + 3) x) i w = th s i w := us_ne _ _ (by omega)
theorem sk_m (s : Int → Int) (x : Int) {k m w : Int} (h1 : k < 44) (h2 : 0 ≤ m) (h3 : 0 ≤ w) : mn (us s k x) m w = mn s m w := us_ne _ _ (by omega)
theorem sk_t (s : Int → Int) (x : Int) {k t w : Int} (h1 : k < 12) (h2 : 0 ≤ t) (h3 : 0 ≤ w) : th (us s k x) t w = th s t w := us_ne _ _ (by omega)
theorem wn_k (s : Int → Int) (x : Int) {w o k : Int} (h : 0 ≤ w) (h2 : 0 ≤ o) (hk : k < 44) : us s (44 + 10 * w + 4 + o) x k = s k := us_ne _ _ (by omega)
theorem wn_t (s : Int → Int) (x : Int) {w o t v : Int} (h : 0 ≤ w) (h2 : 0 ≤ o) (ht : t < 8) (hv : v < 4) : th (us s (44 + 10 * w + 4 + o) x) t v = th s t v := us_ne _ _ (by omega)
theorem wn_m (s : Int → Int) (x i : Int) {w o v : Int} (h2 : 0 ≤ o) (h3 : o < 6) (h4 : 0 ≤ v) (hv : v < 4) : mn (us s (44 + 10 * w + 4 + o) x) i v = mn s i v := us_ne _ _ (by omega)
theorem wn_n (s : Int → Int) (x i : Int) {w o p : Int} (h2 : 0 ≤ o) (h3 : o < 6) (h4 : 0 ≤ p) (hv : p < 6) : mn (us s (44 + 10 * w + 4 + o) x) i (4 + p) = if i = w ∧ p = o then x else mn s i (4 + p) := by
  unfold mn
  by_cases e : i = w ∧ p = o
  · obtain ⟨rfl, rfl⟩ := e
    rw [if_pos ⟨rfl, rfl⟩, show 44 + 10 * i + (4 + p) = 44 + 10 * i + 4 + p by omega, us_eq]
  · rw [if_neg e, us_ne _ _ (by omega)]
section
variable {s : Int → Int} {N : Int}
theorem pl_all (B : Int → Int) (a : Int) (ha : a = 0 ∨ a = 1 ∨ a = 2 ∨ a = 3) : (B 6 % 2 = 0 → plB B a 0 = (if a = 0 then am_min (B 7) (B 0 + 1) else B 0) ∧ plB B a 1 = (if a = 3 then B 1 - am_min (B 1) (huB B 0) else B 1) ∧ plB B a 2 = (if a = 3 ∧ 0 < B 2 then B 2 - 1 else B 2) ∧ plB B a 3 = B 3 ∧ plB B a 4 = (if a = 1 then B 4 + 1 else if a = 2 then B 4 - 1 else B 4) ∧ plB B a 5 = B 5)
  ∧ (B 6 % 2 = 1 → plB B a 1 = (if a = 0 then am_min (B 8) (B 1 + 1) else B 1) ∧ plB B a 0 = (if a = 3 then B 0 - am_min (B 0) (huB B 1) else B 0) ∧ plB B a 3 = (if a = 3 ∧ 0 < B 3 then B 3 - 1 else B 3) ∧ plB B a 2 = B 2 ∧ plB B a 5 = (if a = 1 then B 5 + -1 else if a = 2 then B 5 - -1 else B 5) ∧ plB B a 4 = B 4)
  ∧ plB B a 6 = B 6 + 1 ∧ (∀ k, 7 ≤ k → plB B a k = B k) := by
  refine ⟨fun e => ?_, fun e => ?_, ?_, ?_⟩
  · unfold plB plI us
    rw [e]
    rcases ha with rfl | rfl | rfl | rfl <;> simp
  · unfold plB plI us
    rw [e]
    rcases ha with rfl | rfl | rfl | rfl <;> simp
  · rfl
  · intro k hk
    unfold plB
    rw [us_ne _ _ (by omega)]
    unfold plI
    have hm : B 6 % 2 = 0 ∨ B 6 % 2 = 1 := by omega
    rcases ha with rfl | rfl | rfl | rfl <;> simp (disch := omega) only [Int.reduceEq, ↓reduceIte, us_ne]
theorem ac2_0 (hi : Iv N s) (hd : s 6 ≠ -1) (a : Int) (ha : a = 0 ∨ a = 1 ∨ a = 2 ∨ a = 3) (e : s 10 % 2 = 0) : acR s (ac2 s a 0 (s 6) (s 7)) (plB (boN s) a) := by
  have hi' := hi
  obtain ⟨i0, i1, i2, i3, j2, j3, j4, j5, j6, j7, j8, j9, it, im, iw, ia, ih, i6, iu⟩ := hi
  obtain ⟨u0, u1, u2, u3, u4, u5, u6, u7, u8, u9, u10⟩ := iu hd
  obtain ⟨-, -, -, -, -, -, x1, x2⟩ := im (s 6) u0 u1
  obtain ⟨-, -, -, -, -, -, y1, y2⟩ := im (s 7) u2 u3
  obtain ⟨-, -, b1, b2⟩ := be_rng hi' (t := mn s (s 6) 3) (by omega) (by omega)
  obtain ⟨-, -, c1, c2⟩ := be_rng hi' (t := mn s (s 7) 3) (by omega) (by omega)
  have hh := ih (s 6) (s 7) u0 u1 u2 u3 u4
  obtain ⟨p0, p1, p2, p3, p4, p5⟩ := (pl_all (boN s) a ha).1 e
  have p6 := (pl_all (boN s) a ha).2.2.1
  simp only [bo_all] at p0 p1 p2 p3 p4 p5 p6
  unfold acR
  rw [p0, p1, p2, p3, p4, p5, p6]
  clear p0 p1 p2 p3 p4 p5 p6 it im iw ia ih iu hi' u5 u6 u7 u8 u9 u10 j2 j3 j4 j5 j6 j7 j8 j9 i6 hd e
  have z1 : 0 < beY s (mn s (s 6) 3) → 0 ≤ mn s (s 6) 3 := fun z => by
    have := b2 z
    omega
  unfold ac2 ac1
  rcases ha with rfl | rfl | rfl | rfl
  · simp only [Int.reduceEq, ↓reduceIte, Int.reduceAdd, false_and]
    refine ⟨fun k k1 k2 => ?_, ?_, ?_, ?_, fun m k1 k2 => ⟨?_, ?_, ?_, ?_⟩, fun m o k1 k2 k3 k4 => ?_, fun t k1 k2 => ⟨?_, ?_, ?_, ?_⟩⟩ <;> simp (disch := omega) only [us_ne, us_eq, sk_m, sk_t, sl_k, sl_l, sl_w, sl_n, sl_t]
    · by_cases e1 : m = s 6
      · subst e1; (repeat rw [if_pos rfl]); (try rw [if_neg (by omega)])
      · by_cases e2 : m = s 7
        · subst e2; simp only [e1, ↓reduceIte]
        · simp only [e1, e2, ↓reduceIte]
    · by_cases e1 : t = mn s (s 6) 3
      · rw [← e1] at b1 ⊢; simp only [↓reduceIte]; (try split) <;> omega
      · by_cases e2 : t = mn s (s 7) 3
        · rw [← e2] at c1 ⊢; simp only [e1, ↓reduceIte]; (try split) <;> omega
        · simp only [e1, e2, ↓reduceIte]
  · simp only [Int.reduceEq, ↓reduceIte, Int.reduceAdd, false_and]
    refine ⟨fun k k1 k2 => ?_, ?_, ?_, ?_, fun m k1 k2 => ⟨?_, ?_, ?_, ?_⟩, fun m o k1 k2 k3 k4 => ?_, fun t k1 k2 => ⟨?_, ?_, ?_, ?_⟩⟩ <;> simp (disch := omega) only [us_ne, us_eq, sk_m, sk_t]
    · by_cases e1 : m = s 6
      · subst e1; (repeat rw [if_pos rfl]); (try rw [if_neg (by omega)])
      · by_cases e2 : m = s 7
        · subst e2; simp only [e1, ↓reduceIte]
        · simp only [e1, e2, ↓reduceIte]
    · by_cases e1 : t = mn s (s 6) 3
      · rw [← e1] at b1 ⊢; simp only [↓reduceIte]; (try split) <;> omega
      · by_cases e2 : t = mn s (s 7) 3
        · rw [← e2] at c1 ⊢; simp only [e1, ↓reduceIte]; (try split) <;> omega
        · simp only [e1, e2, ↓reduceIte]
  · simp only [Int.reduceEq, ↓reduceIte, Int.reduceAdd, false_and]
    refine ⟨fun k k1 k2 => ?_, ?_, ?_, ?_, fun m k1 k2 => ⟨?_, ?_, ?_, ?_⟩, fun m o k1 k2 k3 k4 => ?_, fun t k1 k2 => ⟨?_, ?_, ?_, ?_⟩⟩ <;> simp (disch := omega) only [us_ne, us_eq, sk_m, sk_t]
    · by_cases e1 : m = s 6
      · subst e1; (repeat rw [if_pos rfl]); (try rw [if_neg (by omega)])
      · by_cases e2 : m = s 7
        · subst e2; simp only [e1, ↓reduceIte]
        · simp only [e1, e2, ↓reduceIte]
    · by_cases e1 : t = mn s (s 6) 3
      · rw [← e1] at b1 ⊢; simp only [↓reduceIte]; (try split) <;> omega
      · by_cases e2 : t = mn s (s 7) 3
        · rw [← e2] at c1 ⊢; simp only [e1, ↓reduceIte]; (try split) <;> omega
        · simp only [e1, e2, ↓reduceIte]
  · by_cases z : 0 < beY s (mn s (s 6) 3)
    · have z2 := z1 z
      simp only [z, Int.reduceEq, ↓reduceIte, Int.reduceAdd, and_self]
      refine ⟨fun k k1 k2 => ?_, ?_, ?_, ?_, fun m k1 k2 => ⟨?_, ?_, ?_, ?_⟩, fun m o k1 k2 k3 k4 => ?_, fun t k1 k2 => ⟨?_, ?_, ?_, ?_⟩⟩ <;> simp (disch := omega) only [us_ne, us_eq, sk_m, sk_t, sl_k, sl_l, sl_w, sl_n, sl_t, sw_k, sw_m, sw_w, sw_o]
      · by_cases e1 : m = s 6
        · subst e1; (repeat rw [if_pos rfl]); (try rw [if_neg (by omega)])
        · by_cases e2 : m = s 7
          · subst e2; simp only [e1, ↓reduceIte]
          · simp only [e1, e2, ↓reduceIte]
      · by_cases e1 : t = mn s (s 6) 3
        · rw [← e1] at b1 ⊢; simp only [↓reduceIte]; (try split) <;> omega
        · by_cases e2 : t = mn s (s 7) 3
          · rw [← e2] at c1 ⊢; simp only [e1, ↓reduceIte]; (try split) <;> omega
          · simp only [e1, e2, ↓reduceIte]
    · simp only [z, Int.reduceEq, ↓reduceIte, Int.reduceAdd, and_false]
      refine ⟨fun k k1 k2 => ?_, ?_, ?_, ?_, fun m k1 k2 => ⟨?_, ?_, ?_, ?_⟩, fun m o k1 k2 k3 k4 => ?_, fun t k1 k2 => ⟨?_, ?_, ?_, ?_⟩⟩ <;> simp (disch := omega) only [us_ne, us_eq, sk_m, sk_t, sl_k, sl_l, sl_w, sl_n, sl_t]
      · by_cases e1 : m = s 6
        · subst e1; (repeat rw [if_pos rfl]); (try rw [if_neg (by omega)])
        · by_cases e2 : m = s 7
          · subst e2; simp only [e1, ↓reduceIte]
          · simp only [e1, e2, ↓reduceIte]
      · by_cases e1 : t = mn s (s 6) 3
        · rw [← e1] at b1 ⊢; simp only [↓reduceIte]; (try split) <;> omega
        · by_cases e2 : t = mn s (s 7) 3
          · rw [← e2] at c1 ⊢; simp only [e1, ↓reduceIte]; (try split) <;> omega
          · simp only [e1, e2, ↓reduceIte]
theorem ac2_1 (hi : Iv N s) (hd : s 6 ≠ -1) (a : Int) (ha : a = 0 ∨ a = 1 ∨ a = 2 ∨ a = 3) (e : s 10 % 2 = 1) : acR s (ac2 s a 1 (s 7) (s 6)) (plB (boN s) a) := by
  have hi' := hi
  obtain ⟨i0, i1, i2, i3, j2, j3, j4, j5, j6, j7, j8, j9, it, im, iw, ia, ih, i6, iu⟩ := hi
  obtain ⟨u0, u1, u2, u3, u4, u5, u6, u7, u8, u9, u10⟩ := iu hd
  obtain ⟨-, -, -, -, -, -, x1, x2⟩ := im (s 6) u0 u1
  obtain ⟨-, -, -, -, -, -, y1, y2⟩ := im (s 7) u2 u3
  obtain ⟨-, -, b1, b2⟩ := be_rng hi' (t := mn s (s 6) 3) (by omega) (by omega)
  obtain ⟨-, -, c1, c2⟩ := be_rng hi' (t := mn s (s 7) 3) (by omega) (by omega)
  have hh := ih (s 6) (s 7) u0 u1 u2 u3 u4
  obtain ⟨p0, p1, p2, p3, p4, p5⟩ := (pl_all (boN s) a ha).2.1 e
  have p6 := (pl_all (boN s) a ha).2.2.1
  simp only [bo_all] at p0 p1 p2 p3 p4 p5 p6
  unfold acR
  rw [p0, p1, p2, p3, p4, p5, p6]
  clear p0 p1 p2 p3 p4 p5 p6 it im iw ia ih iu hi' u5 u6 u7 u8 u9 u10 j2 j3 j4 j5 j6 j7 j8 j9 i6 hd e
  have z1 : 0 < beY s (mn s (s 7) 3) → 0 ≤ mn s (s 7) 3 := fun z => by
    have := c2 z
    omega
  unfold ac2 ac1
  rcases ha with rfl | rfl | rfl | rfl
  · simp only [Int.reduceEq, ↓reduceIte, Int.reduceAdd, false_and]
    refine ⟨fun k k1 k2 => ?_, ?_, ?_, ?_, fun m k1 k2 => ⟨?_, ?_, ?_, ?_⟩, fun m o k1 k2 k3 k4 => ?_, fun t k1 k2 => ⟨?_, ?_, ?_, ?_⟩⟩ <;> simp (disch := omega) only [us_ne, us_eq, sk_m, sk_t, sl_k, sl_l, sl_w, sl_n, sl_t]
    · by_cases e1 : m = s 6
      · subst e1; (repeat rw [if_pos rfl]); (try rw [if_neg (by omega)])
      · by_cases e2 : m = s 7
        · subst e2; simp only [e1, ↓reduceIte]
        · simp only [e1, e2, ↓reduceIte]
    · by_cases e1 : t = mn s (s 6) 3
      · rw [← e1] at b1 ⊢; simp only [↓reduceIte]; (try split) <;> omega
      · by_cases e2 : t = mn s (s 7) 3
        · rw [← e2] at c1 ⊢; simp only [e1, ↓reduceIte]; (try split) <;> omega
        · simp only [e1, e2, ↓reduceIte]
  · simp only [Int.reduceEq, ↓reduceIte, Int.reduceAdd, false_and]
    refine ⟨fun k k1 k2 => ?_, ?_, ?_, ?_, fun m k1 k2 => ⟨?_, ?_, ?_, ?_⟩, fun m o k1 k2 k3 k4 => ?_, fun t k1 k2 => ⟨?_, ?_, ?_, ?_⟩⟩ <;> simp (disch := omega) only [us_ne, us_eq, sk_m, sk_t]
    · by_cases e1 : m = s 6
      · subst e1; (repeat rw [if_pos rfl]); (try rw [if_neg (by omega)])
      · by_cases e2 : m = s 7
        · subst e2; simp only [e1, ↓reduceIte]
        · simp only [e1, e2, ↓reduceIte]
    · by_cases e1 : t = mn s (s 6) 3
      · rw [← e1] at b1 ⊢; simp only [↓reduceIte]; (try split) <;> omega
      · by_cases e2 : t = mn s (s 7) 3
        · rw [← e2] at c1 ⊢; simp only [e1, ↓reduceIte]; (try split) <;> omega
        · simp only [e1, e2, ↓reduceIte]
  · simp only [Int.reduceEq, ↓reduceIte, Int.reduceAdd, false_and]
    refine ⟨fun k k1 k2 => ?_, ?_, ?_, ?_, fun m k1 k2 => ⟨?_, ?_, ?_, ?_⟩, fun m o k1 k2 k3 k4 => ?_, fun t k1 k2 => ⟨?_, ?_, ?_, ?_⟩⟩ <;> simp (disch := omega) only [us_ne, us_eq, sk_m, sk_t]
    · by_cases e1 : m = s 6
      · subst e1; (repeat rw [if_pos rfl]); (try rw [if_neg (by omega)])
      · by_cases e2 : m = s 7
        · subst e2; simp only [e1, ↓reduceIte]
        · simp only [e1, e2, ↓reduceIte]
    · by_cases e1 : t = mn s (s 6) 3
      · rw [← e1] at b1 ⊢; simp only [↓reduceIte]; (try split) <;> omega
      · by_cases e2 : t = mn s (s 7) 3
        · rw [← e2] at c1 ⊢; simp only [e1, ↓reduceIte]; (try split) <;> omega
        · simp only [e1, e2, ↓reduceIte]
  · by_cases z : 0 < beY s (mn s (s 7) 3)
    · have z2 := z1 z
      simp only [z, Int.reduceEq, ↓reduceIte, Int.reduceAdd, and_self]
      refine ⟨fun k k1 k2 => ?_, ?_, ?_, ?_, fun m k1 k2 => ⟨?_, ?_, ?_, ?_⟩, fun m o k1 k2 k3 k4 => ?_, fun t k1 k2 => ⟨?_, ?_, ?_, ?_⟩⟩ <;> simp (disch := omega) only [us_ne, us_eq, sk_m, sk_t, sl_k, sl_l, sl_w, sl_n, sl_t, sw_k, sw_m, sw_w, sw_o]
      · by_cases e1 : m = s 6
        · subst e1; (repeat rw [if_pos rfl]); (try rw [if_neg (by omega)])
        · by_cases e2 : m = s 7
          · subst e2; simp only [e1, ↓reduceIte]
          · simp only [e1, e2, ↓reduceIte]
      · by_cases e1 : t = mn s (s 6) 3
        · rw [← e1] at b1 ⊢; simp only [↓reduceIte]; (try split) <;> omega
        · by_cases e2 : t = mn s (s 7) 3
          · rw [← e2] at c1 ⊢; simp only [e1, ↓reduceIte]; (try split) <;> omega
          · simp only [e1, e2, ↓reduceIte]
    · simp only [z, Int.reduceEq, ↓reduceIte, Int.reduceAdd, and_false]
      refine ⟨fun k k1 k2 => ?_, ?_, ?_, ?_, fun m k1 k2 => ⟨?_, ?_, ?_, ?_⟩, fun m o k1 k2 k3 k4 => ?_, fun t k1 k2 => ⟨?_, ?_, ?_, ?_⟩⟩ <;> simp (disch := omega) only [us_ne, us_eq, sk_m, sk_t, sl_k, sl_l, sl_w, sl_n, sl_t]
      · by_cases e1 : m = s 6
        · subst e1; (repeat rw [if_pos rfl]); (try rw [if_neg (by omega)])
        · by_cases e2 : m = s 7
          · subst e2; simp only [e1, ↓reduceIte]
          · simp only [e1, e2, ↓reduceIte]
      · by_cases e1 : t = mn s (s 6) 3
        · rw [← e1] at b1 ⊢; simp only [↓reduceIte]; (try split) <;> omega
        · by_cases e2 : t = mn s (s 7) 3
          · rw [← e2] at c1 ⊢; simp only [e1, ↓reduceIte]; (try split) <;> omega
          · simp only [e1, e2, ↓reduceIte]
theorem enA_get (y : Int → Int) {w o : Int} (hw : 0 ≤ w) (h0 : 0 ≤ o) (h6 : o < 6) : (∀ k, 0 ≤ k → k ≤ 5 → enA y w o k = y k) ∧ enA y w o 6 = -1 ∧ (∀ k, 8 ≤ k → k ≤ 10 → enA y w o k = y k) ∧ (∀ m v, 0 ≤ m → 0 ≤ v → v < 4 → mn (enA y w o) m v = mn y m v) ∧ (∀ t v, 0 ≤ t → t < 8 → 0 ≤ v → v < 4 → th (enA y w o) t v = th y t v) ∧ (∀ m p, 0 ≤ m → 0 ≤ p → p < 6 → mn (enA y w o) m (4 + p) = if m = w ∧ p = o then mn y w (4 + o) + 1 else mn y m (4 + p)) := by
  have e : y (44 + 10 * w + 4 + o) = mn y w (4 + o) := by unfold mn; congr 1; omega
  unfold enA
  rw [e]
  refine ⟨fun k a b => ?_, ?_, fun k a b => ?_, fun m v a b c => ?_, fun t v a b c d => ?_, fun m p a b c => ?_⟩
  · simp (disch := omega) only [us_ne, wn_k]
  · rw [us_ne _ _ (by omega), us_eq]
  · simp (disch := omega) only [us_ne, wn_k]
  · simp (disch := omega) only [sk_m, wn_m]
  · simp (disch := omega) only [sk_t, wn_t]
  · simp (disch := omega) only [sk_m, wn_n]
theorem su_upd (f f2 : Int → Int) (i : Int) : ∀ (k : Nat) (m : Int), (∀ j, m ≤ j → j < m + k → j ≠ i → f2 j = f j) → f2 i = f i + 1 → m ≤ i → i < m + k → su f2 k m = su f k m + 1
  | 0, m, _, _, h1, h2 => by omega
  | k + 1, m, h, hi, h1, h2 => by
    show f2 m + su f2 k (m + 1) = f m + su f k (m + 1) + 1
    by_cases e : m = i
    · subst e
      have := su_congr f2 f k (m + 1) (fun j a b => h j (by omega) (by omega) (by omega))
      omega
    · have := su_upd f f2 i k (m + 1) (fun j a b c => h j (by omega) (by omega) c) hi (by omega) (by omega)
      have := h m (by omega) (by omega) e
      omega
theorem pl_rng {B : Int → Int} (hi : IB B) (a : Int) (ha : a = 0 ∨ a = 1 ∨ a = 2 ∨ a = 3) (hc : caB B a) : 0 ≤ plB B a 0 ∧ plB B a 0 ≤ B 7 ∧ 0 ≤ plB B a 1 ∧ plB B a 1 ≤ B 8 ∧ 0 ≤ plB B a 2 ∧ plB B a 2 ≤ B 2 ∧ 0 ≤ plB B a 3 ∧ plB B a 3 ≤ B 3 ∧ 0 ≤ plB B a 4 ∧ plB B a 4 < plB B a 5 ∧ plB B a 5 ≤ B 15 ∧ plB B a 6 = B 6 + 1 ∧ (B 6 % 2 = 0 → B 0 ≤ plB B a 0) ∧ (B 6 % 2 = 1 → B 1 ≤ plB B a 1) := by
  unfold IB at hi
  obtain ⟨p0, p1, p2, p3⟩ := pl_all B a ha
  have hm : B 6 % 2 = 0 ∨ B 6 % 2 = 1 := by omega
  have hh : ∀ i, 0 ≤ huB B i := by intro i; unfold huB; split <;> omega
  have h0 := hh 0
  have h1 := hh 1
  unfold caB at hc
  rw [p2]
  clear p2 p3 hh
  rcases hm with e | e
  · obtain ⟨q0, q1, q2, q3, q4, q5⟩ := p0 e
    rw [q0, q1, q2, q3, q4, q5]
    clear q0 q1 q2 q3 q4 q5 p0 p1
    unfold am_min
    rcases ha with rfl | rfl | rfl | rfl <;> simp only [Int.reduceEq, ↓reduceIte, false_and, true_and, false_or, or_false] at hc ⊢ <;> (repeat' split) <;> omega
  · obtain ⟨q0, q1, q2, q3, q4, q5⟩ := p1 e
    rw [q0, q1, q2, q3, q4, q5]
    clear q0 q1 q2 q3 q4 q5 p0 p1
    unfold am_min
    rcases ha with rfl | rfl | rfl | rfl <;> simp only [Int.reduceEq, ↓reduceIte, false_and, true_and, false_or, or_false] at hc ⊢ <;> (repeat' split) <;> omega
end
