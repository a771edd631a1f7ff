/-! ONE PLACE of a DAWN is written: the pure one, the class', what holds -/
theorem um_m (s : Int → Int) (m x i : Int) {w0 w : Int} (h0 : 0 ≤ w0) (h1 : w0 < 10) (h2 : 0 ≤ w) (h3 : w < 10) : mn (us s (44 + 10 * m + w0) x) i w = if i = m ∧ w = w0 then x else mn s i w := by
  unfold mn
  by_cases e : i = m ∧ w = w0
  · obtain ⟨rfl, rfl⟩ := e
    rw [if_pos ⟨rfl, rfl⟩, us_eq]
  · rw [if_neg e, us_ne _ _ (by omega)]
theorem um_k (s : Int → Int) (x : Int) {m w0 k : Int} (h0 : 0 ≤ m) (h1 : 0 ≤ w0) (hk : k < 44) : us s (44 + 10 * m + w0) x k = s k := us_ne _ _ (by omega)
theorem um_t (s : Int → Int) (x : Int) {m w0 t w : Int} (h0 : 0 ≤ m) (h1 : 0 ≤ w0) (ht : t < 8) (hw : w < 4) : th (us s (44 + 10 * m + w0) x) t w = th s t w := us_ne _ _ (by omega)
theorem ut_t (s : Int → Int) (t x i : Int) {w0 w : Int} (h0 : 0 ≤ w0) (h1 : w0 < 4) (h2 : 0 ≤ w) (h3 : w < 4) : th (us s (12 + 4 * t + w0) x) i w = if i = t ∧ w = w0 then x else th s i w := by
  unfold th
  by_cases e : i = t ∧ w = w0
  · obtain ⟨rfl, rfl⟩ := e
    rw [if_pos ⟨rfl, rfl⟩, us_eq]
  · rw [if_neg e, us_ne _ _ (by omega)]
theorem ut_k (s : Int → Int) (x : Int) {t w0 k : Int} (h0 : 0 ≤ t) (h1 : 0 ≤ w0) (hk : k < 12) : us s (12 + 4 * t + w0) x k = s k := us_ne _ _ (by omega)
theorem ut_m (s : Int → Int) (x : Int) {t w0 m w : Int} (h1 : t < 8) (hw0 : w0 < 4) (h2 : 0 ≤ m) (h3 : 0 ≤ w) : mn (us s (12 + 4 * t + w0) x) m w = mn s m w := us_ne _ _ (by omega)
theorem RD_um {g : Mem} {b : Int} {s : Int → Int} (hb : isD b) (r : RD g b s) (h8 : s 0 ≤ 8) (h6 : s 1 ≤ 6) {m w0 : Int} (x : Int) (h0 : 0 ≤ m) (hw : w0 = 0 ∨ w0 = 1 ∨ w0 = 2 ∨ w0 = 3) : RD (wr g (b + 6 + w0) m x) b (us s (44 + 10 * m + w0) x) := by
  have hb2 := isD_rng hb
  obtain ⟨r0, r1, r2, rt, rm, rw', r6, r7⟩ := r
  have k : ∀ j, j < 44 → us s (44 + 10 * m + w0) x j = s j := fun j hj => um_k s x h0 (by omega) hj
  have ne : ∀ c j, 0 ≤ c → c ≠ b + 6 + w0 → rd (wr g (b + 6 + w0) m x) c j = rd g c j := fun c j a e => rd_wr_ne g m j x (by omega) a e
  unfold RD
  rw [k 0 (by omega), k 1 (by omega), k 6 (by omega), k 7 (by omega), k 8 (by omega), k 9 (by omega), k 10 (by omega), ne b 0 (by omega) (by omega), ne b 1 (by omega) (by omega), ne b 14 (by omega) (by omega), ne b 15 (by omega) (by omega), ne b 16 (by omega) (by omega), ne b 17 (by omega) (by omega), ne b 18 (by omega) (by omega)]
  refine ⟨r0, r1, fun i a c => ?_, fun t a c => ?_, fun i a c => ?_, fun i o a c e f => ?_, r6, r7⟩
  · rw [ne _ _ (by omega) (by omega), k _ (by omega)]; exact r2 i a c
  · rw [ne _ _ (by omega) (by omega), ne _ _ (by omega) (by omega), ne _ _ (by omega) (by omega), ne _ _ (by omega) (by omega), um_t _ _ h0 (by omega) (by omega) (by omega), um_t _ _ h0 (by omega) (by omega) (by omega), um_t _ _ h0 (by omega) (by omega) (by omega), um_t _ _ h0 (by omega) (by omega) (by omega)]
    exact rt t a c
  · obtain ⟨q0, q1, q2, q3⟩ := rm i a c
    rw [um_m _ _ _ _ (by omega) (by omega) (by omega) (by omega), um_m _ _ _ _ (by omega) (by omega) (by omega) (by omega), um_m _ _ _ _ (by omega) (by omega) (by omega) (by omega), um_m _ _ _ _ (by omega) (by omega) (by omega) (by omega)]
    have wi : ∀ c', c' = b + 6 + w0 → rd (wr g (b + 6 + w0) m x) c' i = if i = m then x else rd g c' i := fun c' e => by subst e; exact rd_wr_if g _ x h0 a
    rcases hw with rfl | rfl | rfl | rfl
    · rw [wi (b + 6) (by omega), ne _ _ (by omega) (by omega), ne _ _ (by omega) (by omega), ne _ _ (by omega) (by omega), q0, q1, q2, q3]
      simp
    · rw [wi (b + 7) (by omega), ne _ _ (by omega) (by omega), ne _ _ (by omega) (by omega), ne _ _ (by omega) (by omega), q0, q1, q2, q3]
      simp
    · rw [wi (b + 8) (by omega), ne _ _ (by omega) (by omega), ne _ _ (by omega) (by omega), ne _ _ (by omega) (by omega), q0, q1, q2, q3]
      simp
    · rw [wi (b + 9) (by omega), ne _ _ (by omega) (by omega), ne _ _ (by omega) (by omega), ne _ _ (by omega) (by omega), q0, q1, q2, q3]
      simp
  · rw [ne _ _ (by omega) (by omega), um_m _ _ _ _ (by omega) (by omega) (by omega) (by omega), if_neg (by omega)]
    exact rw' i o a c e f
theorem RD_ut {g : Mem} {b : Int} {s : Int → Int} (hb : isD b) (r : RD g b s) (h6 : s 1 ≤ 6) {t w0 : Int} (x : Int) (h0 : 0 ≤ t) (h1 : t < 8) (hw : w0 = 0 ∨ w0 = 1 ∨ w0 = 2 ∨ w0 = 3) : RD (wr g (b + 2 + w0) t x) b (us s (12 + 4 * t + w0) x) := by
  have hb2 := isD_rng hb
  obtain ⟨r0, r1, r2, rt, rm, rw', r6, r7⟩ := r
  have k : ∀ j, j < 12 → us s (12 + 4 * t + w0) x j = s j := fun j hj => ut_k s x h0 (by omega) hj
  have ne : ∀ c j, 0 ≤ c → c ≠ b + 2 + w0 → rd (wr g (b + 2 + w0) t x) c j = rd g c j := fun c j a e => rd_wr_ne g t j x (by omega) a e
  unfold RD
  rw [k 0 (by omega), k 1 (by omega), k 6 (by omega), k 7 (by omega), k 8 (by omega), k 9 (by omega), k 10 (by omega), ne b 0 (by omega) (by omega), ne b 1 (by omega) (by omega), ne b 14 (by omega) (by omega), ne b 15 (by omega) (by omega), ne b 16 (by omega) (by omega), ne b 17 (by omega) (by omega), ne b 18 (by omega) (by omega)]
  refine ⟨r0, r1, fun i a c => ?_, fun i a c => ?_, fun i a c => ?_, fun i o a c e f => ?_, r6, r7⟩
  · rw [ne _ _ (by omega) (by omega), k _ (by omega)]; exact r2 i a c
  · obtain ⟨q0, q1, q2, q3⟩ := rt i a c
    rw [ut_t _ _ _ _ (by omega) (by omega) (by omega) (by omega), ut_t _ _ _ _ (by omega) (by omega) (by omega) (by omega), ut_t _ _ _ _ (by omega) (by omega) (by omega) (by omega), ut_t _ _ _ _ (by omega) (by omega) (by omega) (by omega)]
    have wi : ∀ c', c' = b + 2 + w0 → rd (wr g (b + 2 + w0) t x) c' i = if i = t then x else rd g c' i := fun c' e => by subst e; exact rd_wr_if g _ x h0 a
    rcases hw with rfl | rfl | rfl | rfl
    · rw [wi (b + 2) (by omega), ne _ _ (by omega) (by omega), ne _ _ (by omega) (by omega), ne _ _ (by omega) (by omega), q0, q1, q2, q3]
      simp
    · rw [wi (b + 3) (by omega), ne _ _ (by omega) (by omega), ne _ _ (by omega) (by omega), ne _ _ (by omega) (by omega), q0, q1, q2, q3]
      simp
    · rw [wi (b + 4) (by omega), ne _ _ (by omega) (by omega), ne _ _ (by omega) (by omega), ne _ _ (by omega) (by omega), q0, q1, q2, q3]
      simp
    · rw [wi (b + 5) (by omega), ne _ _ (by omega) (by omega), ne _ _ (by omega) (by omega), ne _ _ (by omega) (by omega), q0, q1, q2, q3]
      simp
  · rw [ne _ _ (by omega) (by omega), ne _ _ (by omega) (by omega), ne _ _ (by omega) (by omega), ne _ _ (by omega) (by omega), ut_m _ _ h1 (by omega) a (by omega), ut_m _ _ h1 (by omega) a (by omega), ut_m _ _ h1 (by omega) a (by omega), ut_m _ _ h1 (by omega) a (by omega)]
    exact rm i a c
  · rw [ne _ _ (by omega) (by omega), ut_m _ _ h1 (by omega) a (by omega)]
    exact rw' i o a c e f
theorem RD_rule {g : Mem} {b : Int} {s : Int → Int} (hb : isD b) (r : RD g b s) {i : Int} (x : Int) (h0 : 0 ≤ i) (h1 : i < 4) : RD (wr g (b + 1) i x) b (us s (2 + i) x) := by
  have hb2 := isD_rng hb
  obtain ⟨r0, r1, r2, rt, rm, rw', r6, r7⟩ := r
  have ne : ∀ c j, 0 ≤ c → c ≠ b + 1 → rd (wr g (b + 1) i x) c j = rd g c j := fun c j a e => rd_wr_ne g i j x (by omega) a e
  have k : ∀ j, j < 2 ∨ 5 < j → us s (2 + i) x j = s j := fun j hj => us_ne _ _ (by omega)
  unfold RD
  rw [k 0 (by omega), k 1 (by omega), k 6 (by omega), k 7 (by omega), k 8 (by omega), k 9 (by omega), k 10 (by omega), ne b 0 (by omega) (by omega), ne b 1 (by omega) (by omega), ne b 14 (by omega) (by omega), ne b 15 (by omega) (by omega), ne b 16 (by omega) (by omega), ne b 17 (by omega) (by omega), ne b 18 (by omega) (by omega)]
  refine ⟨r0, r1, fun j a c => ?_, fun t a c => ?_, fun m a c => ?_, fun m o a c e f => ?_, r6, r7⟩
  · rw [rd_wr_if g _ x h0 a]
    by_cases e : j = i
    · rw [if_pos e, e, us_eq]
    · rw [if_neg e, us_ne _ _ (by omega)]; exact r2 j a c
  · rw [ne _ _ (by omega) (by omega), ne _ _ (by omega) (by omega), ne _ _ (by omega) (by omega), ne _ _ (by omega) (by omega), sk_t _ _ (by omega) a (by omega), sk_t _ _ (by omega) a (by omega), sk_t _ _ (by omega) a (by omega), sk_t _ _ (by omega) a (by omega)]
    exact rt t a c
  · rw [ne _ _ (by omega) (by omega), ne _ _ (by omega) (by omega), ne _ _ (by omega) (by omega), ne _ _ (by omega) (by omega), sk_m _ _ (by omega) a (by omega), sk_m _ _ (by omega) a (by omega), sk_m _ _ (by omega) a (by omega), sk_m _ _ (by omega) a (by omega)]
    exact rm m a c
  · rw [ne _ _ (by omega) (by omega), sk_m _ _ (by omega) a (by omega)]
    exact rw' m o a c e f
/-- the duel's places alone -/
def meS (s : Int → Int) (m o : Int) : Int → Int := us (us (us (us (us s 6 m) 7 o) 8 0) 9 (s 2)) 10 0
def paS (s : Int → Int) : Int → Int := us (us s 6 (-1)) 7 (-1)
theorem RD_du {g : Mem} {b : Int} {s y : Int → Int} (hb : isD b) (r : RD g b s) {v14 v15 v16 v17 v18 : Int} (hy : ∀ j, j < 6 ∨ 10 < j → y j = s j) (h14 : v14 = y 6) (h : y 6 ≠ -1 → v15 = y 7 ∧ v16 = y 8 ∧ v17 = y 9 ∧ v18 = y 10) : RD (wr (wr (wr (wr (wr g b 14 v14) b 15 v15) b 16 v16) b 17 v17) b 18 v18) b y := by
  have hb2 := isD_rng hb
  obtain ⟨r0, r1, r2, rt, rm, rw', r6, r7⟩ := r
  have ne : ∀ c j, 0 ≤ c → c ≠ b → rd (wr (wr (wr (wr (wr g b 14 v14) b 15 v15) b 16 v16) b 17 v17) b 18 v18) c j = rd g c j := fun c j a e => by simp (disch := omega) only [rd_wr_ne]
  unfold RD
  rw [hy 0 (by omega), hy 1 (by omega)]
  refine ⟨?_, ?_, fun j a c => ?_, fun t a c => ?_, fun m a c => ?_, fun m o a c e f => ?_, ?_, fun z => ?_⟩
  · simp (disch := omega) only [rd_wr_ix, r0]
  · simp (disch := omega) only [rd_wr_ix, r1]
  · rw [ne _ _ (by omega) (by omega), hy _ (by omega)]; exact r2 j a c
  · unfold th
    rw [ne _ _ (by omega) (by omega), ne _ _ (by omega) (by omega), ne _ _ (by omega) (by omega), ne _ _ (by omega) (by omega), hy _ (by omega), hy _ (by omega), hy _ (by omega), hy _ (by omega)]
    exact rt t a c
  · unfold mn
    rw [ne _ _ (by omega) (by omega), ne _ _ (by omega) (by omega), ne _ _ (by omega) (by omega), ne _ _ (by omega) (by omega), hy _ (by omega), hy _ (by omega), hy _ (by omega), hy _ (by omega)]
    exact rm m a c
  · unfold mn
    rw [ne _ _ (by omega) (by omega), hy _ (by omega)]
    exact rw' m o a c e f
  · simp (disch := omega) only [rd_wr_ix, rd_wr_eq, h14]
  · obtain ⟨a, b', c, e⟩ := h z
    simp (disch := omega) only [rd_wr_ix, rd_wr_eq, a, b', c, e, and_self]
section
variable {s : Int → Int} {N : Int}
theorem aw_eq {y : Int → Int} (h1 : y 1 = s 1) (hw : ∀ m o, 0 ≤ m → m < s 1 → 0 ≤ o → o < s 1 → mn y m (4 + o) = mn s m (4 + o)) : awN y = awN s := by
  unfold awN
  rw [h1]
  refine su_congr _ _ _ _ (fun i a b => ?_)
  unfold woN
  rw [h1]
  exact su_congr _ _ _ _ (fun j c e => hw i j (by omega) (by omega) (by omega) (by omega))
theorem Iv_le (hi : Iv N s) {M : Int} (h : N ≤ M) : Iv M s := by
  obtain ⟨i0, i1, i2, i3, j2, j3, j4, j5, j6, j7, j8, j9, it, im, iw, ia, ih, i6, iu⟩ := hi
  exact ⟨i0, i1, i2, i3, j2, j3, j4, j5, j6, j7, j8, j9, it, im, iw, by omega, ih, i6, fun z => by
    obtain ⟨u0, u1, u2, u3, u4, u5, u6, u7, u8, u9, u10, u11⟩ := iu z
    exact ⟨u0, u1, u2, u3, u4, u5, u6, u7, u8, u9, u10, by omega⟩⟩
/-- STRENGTH, LIFE or what he HOLDS of one MAN -/
theorem Iv_um (hi : Iv N s) {m w0 : Int} (x : Int) (h0 : 0 ≤ m) (h1 : m < s 1) (hw : (w0 = 0 ∧ 0 ≤ x ∧ x ≤ 9) ∨ (w0 = 1 ∧ 0 < x ∧ x ≤ mn s m 2) ∨ (w0 = 3 ∧ (x = -1 ∨ (0 ≤ x ∧ x < s 0 ∧ ∀ o, 0 ≤ o → o < s 1 → mn s o 3 ≠ x)))) : Iv N (us s (44 + 10 * m + w0) x) := by
  obtain ⟨i0, i1, i2, i3, j2, j3, j4, j5, j6, j7, j8, j9, it, im, iw, ia, ih, i6, iu⟩ := hi
  have w00 : 0 ≤ w0 ∧ w0 < 4 := by omega
  have k : ∀ j, j < 44 → us s (44 + 10 * m + w0) x j = s j := fun j hj => um_k s x h0 (by omega) hj
  have mm : ∀ i w, 0 ≤ w → w < 10 → mn (us s (44 + 10 * m + w0) x) i w = if i = m ∧ w = w0 then x else mn s i w := fun i w a b => um_m _ _ _ _ (by omega) (by omega) a b
  have tt : ∀ t w, t < 8 → w < 4 → th (us s (44 + 10 * m + w0) x) t w = th s t w := fun t w a b => um_t _ _ h0 (by omega) a b
  have wn : ∀ i o, 0 ≤ o → o < s 1 → mn (us s (44 + 10 * m + w0) x) i (4 + o) = mn s i (4 + o) := fun i o a b => by rw [mm _ _ (by omega) (by omega), if_neg (by omega)]
  have ax : awN (us s (44 + 10 * m + w0) x) = awN s := aw_eq (k 1 (by omega)) (fun i o a b c e => wn i o c e)
  unfold Iv
  rw [k 0 (by omega), k 1 (by omega), k 2 (by omega), k 3 (by omega), k 4 (by omega), k 5 (by omega), k 6 (by omega), k 7 (by omega), k 8 (by omega), k 9 (by omega), k 10 (by omega), ax]
  refine ⟨i0, i1, i2, i3, j2, j3, j4, j5, j6, j7, j8, j9, fun t a b => ?_, fun i a b => ?_, fun i o a b c e => ?_, ia, fun i o a b c e f => ?_, i6, fun z => ?_⟩
  · rw [tt t 0 (by omega) (by omega), tt t 1 (by omega) (by omega), tt t 2 (by omega) (by omega), tt t 3 (by omega) (by omega)]
    exact it t a b
  · have q := im i a b
    rw [mm i 0 (by omega) (by omega), mm i 1 (by omega) (by omega), mm i 2 (by omega) (by omega), mm i 3 (by omega) (by omega)]
    by_cases e : i = m
    · subst e
      rcases hw with ⟨rfl, a1, a2⟩ | ⟨rfl, a1, a2⟩ | ⟨rfl, a1⟩
      · simp only [true_and, Int.reduceEq, ↓reduceIte]; omega
      · simp only [true_and, Int.reduceEq, ↓reduceIte]; omega
      · simp only [true_and, Int.reduceEq, ↓reduceIte]; omega
    · simp only [e, false_and, ↓reduceIte]
      exact q
  · rw [wn i o c e]; exact iw i o a b c e
  · rw [mm i 3 (by omega) (by omega), mm o 3 (by omega) (by omega)]
    rcases hw with ⟨rfl, a1, a2⟩ | ⟨rfl, a1, a2⟩ | ⟨rfl, a1⟩
    · simp only [Int.reduceEq, and_false, ↓reduceIte]
      exact ih i o a b c e f
    · simp only [Int.reduceEq, and_false, ↓reduceIte]
      exact ih i o a b c e f
    · simp only [and_true]
      have n1 := ih i o a b c e f
      by_cases z1 : i = m
      · rw [if_pos z1, if_neg (by omega)]
        intro z
        rcases a1 with a1 | ⟨a1, a2, a3⟩
        · exact a1
        · exact absurd z.symm (a3 o c e)
      · rw [if_neg z1]
        by_cases z2 : o = m
        · rw [if_pos z2]
          intro z
          rcases a1 with a1 | ⟨a1, a2, a3⟩
          · rw [z, a1]
          · exact absurd z (a3 i a b)
        · rw [if_neg z2]
          exact n1
  · obtain ⟨u0, u1, u2, u3, u4, u5, u6, u7, u8, u9, u10, u11⟩ := iu z
    rw [mm (s 6) 1 (by omega) (by omega), mm (s 7) 1 (by omega) (by omega)]
    refine ⟨u0, u1, u2, u3, u4, ?_, ?_, u7, u8, u9, u10, u11⟩ <;> split <;> omega
/-- how often one THING is WORN -/
theorem Iv_worn (hi : Iv N s) {t : Int} (x : Int) (h0 : 0 ≤ t) (h1 : t < s 0) (hx : 0 ≤ x) (hx2 : x ≤ th s t 2) : Iv N (us s (12 + 4 * t + 3) x) := by
  obtain ⟨i0, i1, i2, i3, j2, j3, j4, j5, j6, j7, j8, j9, it, im, iw, ia, ih, i6, iu⟩ := hi
  have k : ∀ j, j < 12 → us s (12 + 4 * t + 3) x j = s j := fun j hj => ut_k s x h0 (by omega) hj
  have mm : ∀ i w, 0 ≤ i → 0 ≤ w → mn (us s (12 + 4 * t + 3) x) i w = mn s i w := fun i w a b => ut_m _ _ (by omega) (by omega) a b
  have ax : awN (us s (12 + 4 * t + 3) x) = awN s := aw_eq (k 1 (by omega)) (fun i o a b c e => mm _ _ a (by omega))
  unfold Iv
  rw [k 0 (by omega), k 1 (by omega), k 2 (by omega), k 3 (by omega), k 4 (by omega), k 5 (by omega), k 6 (by omega), k 7 (by omega), k 8 (by omega), k 9 (by omega), k 10 (by omega), ax]
  refine ⟨i0, i1, i2, i3, j2, j3, j4, j5, j6, j7, j8, j9, fun i a b => ?_, fun i a b => ?_, fun i o a b c e => ?_, ia, fun i o a b c e f => ?_, i6, fun z => ?_⟩
  · have q := it i a b
    rw [ut_t _ _ _ _ (by omega) (by omega) (by omega) (by omega), ut_t _ _ _ _ (by omega) (by omega) (by omega) (by omega), ut_t _ _ _ _ (by omega) (by omega) (by omega) (by omega), ut_t _ _ _ _ (by omega) (by omega) (by omega) (by omega)]
    by_cases e : i = t
    · subst e
      simp only [true_and, Int.reduceEq, ↓reduceIte]; omega
    · simp only [e, false_and, ↓reduceIte]
      exact q
  · rw [mm i 0 a (by omega), mm i 1 a (by omega), mm i 2 a (by omega), mm i 3 a (by omega)]
    exact im i a b
  · rw [mm i _ a (by omega)]; exact iw i o a b c e
  · rw [mm i 3 a (by omega), mm o 3 c (by omega)]; exact ih i o a b c e f
  · obtain ⟨u0, u1, u2, u3, u4, u5, u6, u7, u8, u9, u10, u11⟩ := iu z
    rw [mm (s 6) 1 u0 (by omega), mm (s 7) 1 u2 (by omega)]
    exact ⟨u0, u1, u2, u3, u4, u5, u6, u7, u8, u9, u10, u11⟩
/-- the duel's places, or SUN, GLARE, ODDS -/
theorem Iv_du (hi : Iv N s) {y : Int → Int} (hy : ∀ j, j < 3 ∨ 10 < j → y j = s j) (h3 : 0 ≤ y 3 ∧ y 3 ≤ 99 ∧ 0 ≤ y 4 ∧ y 4 ≤ 9 ∧ 0 ≤ y 5 ∧ y 5 ≤ 16) (h6 : -1 ≤ y 6) (hd : y 6 ≠ -1 → 0 ≤ y 6 ∧ y 6 < s 1 ∧ 0 ≤ y 7 ∧ y 7 < s 1 ∧ y 6 ≠ y 7 ∧ 0 < mn s (y 6) 1 ∧ 0 < mn s (y 7) 1 ∧ 0 ≤ y 8 ∧ y 8 < y 9 ∧ y 9 ≤ s 2 ∧ 0 ≤ y 10 ∧ y 10 ≤ N) : Iv N y := by
  obtain ⟨i0, i1, i2, i3, j2, j3, j4, j5, j6, j7, j8, j9, it, im, iw, ia, ih, i6, iu⟩ := hi
  have mm : ∀ i w, 0 ≤ i → 0 ≤ w → mn y i w = mn s i w := fun i w a b => hy _ (by omega)
  have tt : ∀ i w, 0 ≤ i → 0 ≤ w → th y i w = th s i w := fun i w a b => hy _ (by omega)
  have ax : awN y = awN s := aw_eq (hy 1 (by omega)) (fun i o a b c e => mm _ _ a (by omega))
  unfold Iv
  rw [hy 0 (by omega), hy 1 (by omega), hy 2 (by omega), ax]
  refine ⟨i0, i1, i2, i3, j2, j3, h3.1, h3.2.1, h3.2.2.1, h3.2.2.2.1, h3.2.2.2.2.1, h3.2.2.2.2.2, fun i a b => ?_, fun i a b => ?_, fun i o a b c e => ?_, ia, fun i o a b c e f => ?_, h6, fun z => ?_⟩
  · rw [tt i 0 a (by omega), tt i 1 a (by omega), tt i 2 a (by omega), tt i 3 a (by omega)]
    exact it i a b
  · rw [mm i 0 a (by omega), mm i 1 a (by omega), mm i 2 a (by omega), mm i 3 a (by omega)]
    exact im i a b
  · rw [mm i _ a (by omega)]; exact iw i o a b c e
  · rw [mm i 3 a (by omega), mm o 3 c (by omega)]; exact ih i o a b c e f
  · obtain ⟨u0, u1, u2, u3, u4, u5, u6, u7, u8, u9, u10, u11⟩ := hd z
    rw [mm (y 6) 1 u0 (by omega), mm (y 7) 1 u2 (by omega)]
    exact ⟨u0, u1, u2, u3, u4, u5, u6, u7, u8, u9, u10, u11⟩
end
