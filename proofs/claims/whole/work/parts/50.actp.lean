/-! AN ACT of a pure DAWN, place by place -/
def ac1 (s : Int → Int) (a t w o : Int) : Int → Int :=
  if a = 0 then us s (44 + 10 * w + 1) (am_min (mn s w 2) (mn s w 1 + 1))
  else if a = 1 then us s (8 + t) (s (8 + t) + (if t = 0 then 1 else -1))
  else if a = 2 then us s (8 + t) (s (8 + t) - (if t = 0 then 1 else -1))
  else if 0 < beY s (mn s w 3) then us (us s (44 + 10 * o + 1) (mn s o 1 - am_min (mn s o 1) (huB (boN s) t))) (12 + 4 * mn s w 3 + 3) (th s (mn s w 3) 3 + 1)
  else us s (44 + 10 * o + 1) (mn s o 1 - am_min (mn s o 1) (huB (boN s) t))
def ac2 (s : Int → Int) (a t w o : Int) : Int → Int := us (ac1 s a t w o) 10 (s 10 + 1)
def enA (s : Int → Int) (w o : Int) : Int → Int := us (us (us s (44 + 10 * w + 4 + o) (s (44 + 10 * w + 4 + o) + 1)) 6 (-1)) 7 (-1)
/-- the state behind an ACT: over if the other one has no LIFE -/
def fin (y : Int → Int) (w o : Int) : Int → Int := if mn y o 1 = 0 then enA y w o else y
def acS (s : Int → Int) (a : Int) : Int → Int := fin (ac2 s a (s 10 % 2) (s (6 + s 10 % 2)) (s (7 - s 10 % 2))) (s (6 + s 10 % 2)) (s (7 - s 10 % 2))
/-- what an ACT does to a DAWN, told by its bout B' -/
def acR (s x : Int → Int) (B' : Int → Int) : Prop :=
  (∀ k, 0 ≤ k → k ≤ 7 → x k = s k) ∧ x 8 = B' 4 ∧ x 9 = B' 5 ∧ x 10 = B' 6 ∧
  (∀ m, 0 ≤ m → m < s 1 → mn x m 0 = mn s m 0 ∧ mn x m 2 = mn s m 2 ∧ mn x m 3 = mn s m 3 ∧ mn x m 1 = if m = s 6 then B' 0 else if m = s 7 then B' 1 else mn s m 1) ∧
  (∀ m o, 0 ≤ m → m < s 1 → 0 ≤ o → o < s 1 → mn x m (4 + o) = mn s m (4 + o)) ∧
  (∀ t, 0 ≤ t → t < s 0 → th x t 0 = th s t 0 ∧ th x t 1 = th s t 1 ∧ th x t 2 = th s t 2 ∧ th x t 3 = if t = mn s (s 6) 3 then th s t 2 - B' 2 else if t = mn s (s 7) 3 then th s t 2 - B' 3 else th s t 3)
section
variable {s : Int → Int} {N : Int}
theorem pl_all (B : Int → Int) (a : Int) (ha : a = 0 ∨ a = 1 ∨ a = 2 ∨ a = 3) : (B 6 % 2 = 0 → plB B a 0 = (if a = 0 then am_min (B 7) (B 0 + 1) else B 0) ∧ plB B a 1 = (if a = 3 then B 1 - am_min (B 1) (huB B 0) else B 1) ∧ plB B a 2 = (if a = 3 ∧ 0 < B 2 then B 2 - 1 else B 2) ∧ plB B a 3 = B 3 ∧ plB B a 4 = (if a = 1 then B 4 + 1 else if a = 2 then B 4 - 1 else B 4) ∧ plB B a 5 = B 5)
  ∧ (B 6 % 2 = 1 → plB B a 1 = (if a = 0 then am_min (B 8) (B 1 + 1) else B 1) ∧ plB B a 0 = (if a = 3 then B 0 - am_min (B 0) (huB B 1) else B 0) ∧ plB B a 3 = (if a = 3 ∧ 0 < B 3 then B 3 - 1 else B 3) ∧ plB B a 2 = B 2 ∧ plB B a 5 = (if a = 1 then B 5 + -1 else if a = 2 then B 5 - -1 else B 5) ∧ plB B a 4 = B 4)
  ∧ plB B a 6 = B 6 + 1 ∧ (∀ k, 7 ≤ k → plB B a k = B k) := by
  refine ⟨fun e => ?_, fun e => ?_, ?_, ?_⟩
  · unfold plB plI us
    rw [e]
    rcases ha with rfl | rfl | rfl | rfl <;> simp
  · unfold plB plI us
    rw [e]
    rcases ha with rfl | rfl | rfl | rfl <;> simp
  · rfl
  · intro k hk
    unfold plB
    rw [us_ne _ _ (by omega)]
    unfold plI
    have hm : B 6 % 2 = 0 ∨ B 6 % 2 = 1 := by omega
    rcases ha with rfl | rfl | rfl | rfl <;> simp (disch := omega) only [Int.reduceEq, ↓reduceIte, us_ne]
theorem ac2_0 (hi : Iv N s) (hd : s 6 ≠ -1) (a : Int) (ha : a = 0 ∨ a = 1 ∨ a = 2 ∨ a = 3) (e : s 10 % 2 = 0) : acR s (ac2 s a 0 (s 6) (s 7)) (plB (boN s) a) := by
  have hi' := hi
  obtain ⟨i0, i1, i2, i3, j2, j3, j4, j5, j6, j7, j8, j9, it, im, iw, ia, ih, i6, iu⟩ := hi
  have u := iu hd
  have m1 := im (s 6) u.1 u.2.1
  have m2 := im (s 7) u.2.2.1 u.2.2.2.1
  have b1 := be_rng hi' (t := mn s (s 6) 3) (by omega) (by omega)
  have b2 := be_rng hi' (t := mn s (s 7) 3) (by omega) (by omega)
  have hh := ih (s 6) (s 7) u.1 u.2.1 u.2.2.1 u.2.2.2.1 u.2.2.2.2.1
  obtain ⟨p0, p1, p2, p3, p4, p5⟩ := (pl_all (boN s) a ha).1 e
  have p6 := (pl_all (boN s) a ha).2.2.1
  simp only [bo_all] at p0 p1 p2 p3 p4 p5 p6
  unfold acR
  rw [p0, p1, p2, p3, p4, p5, p6]
  by_cases z : 0 < beY s (mn s (s 6) 3)
  · have z1 := b1.2.2.2 z
    unfold ac2 ac1
    rcases ha with rfl | rfl | rfl | rfl <;> simp only [z, Int.reduceEq, ↓reduceIte, Int.reduceAdd, and_self, and_false, false_and] <;> (refine ⟨fun k k1 k2 => ?_, ?_, ?_, ?_, fun m k1 k2 => ?_, fun m o k1 k2 k3 k4 => ?_, fun t k1 k2 => ?_⟩)
    all_goals first
      | (simp (disch := omega) only [us_ne, us_eq]; done)
      | (unfold mn; simp (disch := omega) only [us_ne]; done)
      | (refine ⟨by (unfold mn; simp (disch := omega) only [us_ne]), by (unfold mn; simp (disch := omega) only [us_ne]), by (unfold mn; simp (disch := omega) only [us_ne]), ?_⟩
         by_cases x1 : m = s 6
         · subst x1; unfold mn; simp (disch := omega) only [us_ne, us_eq, ↓reduceIte]
         · by_cases x2 : m = s 7
           · subst x2; simp only [x1, ↓reduceIte]; unfold mn; simp (disch := omega) only [us_ne, us_eq]
           · simp only [x1, x2, ↓reduceIte]; unfold mn; simp (disch := omega) only [us_ne, us_eq])
      | (refine ⟨by (unfold th; simp (disch := omega) only [us_ne]), by (unfold th; simp (disch := omega) only [us_ne]), by (unfold th; simp (disch := omega) only [us_ne]), ?_⟩
         by_cases x1 : t = mn s (s 6) 3
         · have q := b1.2.2.1
           rw [← x1] at q ⊢
           simp only [↓reduceIte]; unfold th at q ⊢; simp (disch := omega) only [us_ne, us_eq]; omega
         · by_cases x2 : t = mn s (s 7) 3
           · have q := b2.2.2.1
             rw [← x2] at q ⊢
             simp only [x1, ↓reduceIte]; unfold th at q ⊢; simp (disch := omega) only [us_ne, us_eq]; omega
           · simp only [x1, x2, ↓reduceIte]; unfold th; simp (disch := omega) only [us_ne, us_eq])
  · unfold ac2 ac1
    rcases ha with rfl | rfl | rfl | rfl <;> simp only [z, Int.reduceEq, ↓reduceIte, Int.reduceAdd, and_self, and_false, false_and] <;> (refine ⟨fun k k1 k2 => ?_, ?_, ?_, ?_, fun m k1 k2 => ?_, fun m o k1 k2 k3 k4 => ?_, fun t k1 k2 => ?_⟩)
    all_goals first
      | (simp (disch := omega) only [us_ne, us_eq]; done)
      | (unfold mn; simp (disch := omega) only [us_ne]; done)
      | (refine ⟨by (unfold mn; simp (disch := omega) only [us_ne]), by (unfold mn; simp (disch := omega) only [us_ne]), by (unfold mn; simp (disch := omega) only [us_ne]), ?_⟩
         by_cases x1 : m = s 6
         · subst x1; unfold mn; simp (disch := omega) only [us_ne, us_eq, ↓reduceIte]
         · by_cases x2 : m = s 7
           · subst x2; simp only [x1, ↓reduceIte]; unfold mn; simp (disch := omega) only [us_ne, us_eq]
           · simp only [x1, x2, ↓reduceIte]; unfold mn; simp (disch := omega) only [us_ne, us_eq])
      | (refine ⟨by (unfold th; simp (disch := omega) only [us_ne]), by (unfold th; simp (disch := omega) only [us_ne]), by (unfold th; simp (disch := omega) only [us_ne]), ?_⟩
         by_cases x1 : t = mn s (s 6) 3
         · have q := b1.2.2.1
           rw [← x1] at q ⊢
           simp only [↓reduceIte]; unfold th at q ⊢; simp (disch := omega) only [us_ne, us_eq]; omega
         · by_cases x2 : t = mn s (s 7) 3
           · have q := b2.2.2.1
             rw [← x2] at q ⊢
             simp only [x1, ↓reduceIte]; unfold th at q ⊢; simp (disch := omega) only [us_ne, us_eq]; omega
           · simp only [x1, x2, ↓reduceIte]; unfold th; simp (disch := omega) only [us_ne, us_eq])
end
