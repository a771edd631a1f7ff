/-! THE DUEL of a pure DAWN: its bout, an ACT -/
def hdv (s : Int → Int) (m w z : Int) : Int := if mn s m 3 = -1 then z else th s (mn s m 3) w
def boP (s : Int → Int) (m o : Int) (j : Int) : Int :=
  if j = 0 then mn s m 1 else if j = 1 then mn s o 1 else if j = 2 then beY s (mn s m 3) else if j = 3 then beY s (mn s o 3) else
  if j = 4 then s 8 else if j = 5 then s 9 else if j = 6 then s 10 else if j = 7 then mn s m 2 else if j = 8 then mn s o 2 else
  if j = 9 then mn s m 0 else if j = 10 then mn s o 0 else if j = 11 then hdv s m 0 1 else if j = 12 then hdv s o 0 1 else
  if j = 13 then hdv s m 1 0 else if j = 14 then hdv s o 1 0 else if j = 15 then s 2 else if j = 16 then s 3 else s 4
theorem bo_all (s : Int → Int) (m o : Int) : boP s m o 0 = mn s m 1 ∧ boP s m o 1 = mn s o 1 ∧ boP s m o 2 = beY s (mn s m 3) ∧ boP s m o 3 = beY s (mn s o 3) ∧ boP s m o 4 = s 8 ∧ boP s m o 5 = s 9 ∧ boP s m o 6 = s 10 ∧ boP s m o 7 = mn s m 2 ∧ boP s m o 8 = mn s o 2 ∧ boP s m o 9 = mn s m 0 ∧ boP s m o 10 = mn s o 0 ∧ boP s m o 11 = hdv s m 0 1 ∧ boP s m o 12 = hdv s o 0 1 ∧ boP s m o 13 = hdv s m 1 0 ∧ boP s m o 14 = hdv s o 1 0 ∧ boP s m o 15 = s 2 ∧ boP s m o 16 = s 3 ∧ boP s m o 17 = s 4 :=
  ⟨rfl, rfl, rfl, rfl, rfl, rfl, rfl, rfl, rfl, rfl, rfl, rfl, rfl, rfl, rfl, rfl, rfl, rfl⟩
abbrev boN (s : Int → Int) : Int → Int := boP s (s 6) (s 7)
/-- an ACT -/
def acA (s : Int → Int) (a : Int) : Int → Int :=
  let t := s 10 % 2
  let w := s (6 + t)
  let o := s (7 - t)
  let s1 := if a = 0 then us s (44 + 10 * w + 1) (am_min (mn s w 2) (mn s w 1 + 1))
    else if a = 1 then us s (8 + t) (s (8 + t) + (if t = 0 then 1 else -1))
    else if a = 2 then us s (8 + t) (s (8 + t) - (if t = 0 then 1 else -1))
    else
      let q := us s (44 + 10 * o + 1) (mn s o 1 - am_min (mn s o 1) (huB (boN s) t))
      if 0 < beY s (mn s w 3) then us q (12 + 4 * mn s w 3 + 3) (th s (mn s w 3) 3 + 1) else q
  let s2 := us s1 10 (s 10 + 1)
  if mn s2 o 1 = 0 then us (us (us s2 (44 + 10 * w + 4 + o) (mn s w (4 + o) + 1)) 6 (-1)) 7 (-1) else s2
theorem us_eq (s : Int → Int) (k x : Int) : us s k x k = x := if_pos rfl
theorem us_ne (s : Int → Int) {k j : Int} (x : Int) (h : j ≠ k) : us s k x j = s j := if_neg h
theorem RM_us {g : Mem} {s : Int → Int} (r : RM g s) {k : Int} (x : Int) (h : 0 ≤ k) : RM (wr g 144 k x) (us s k x) := by
  intro i h1 h2
  rw [rd_wr_if _ _ _ h h1]
  unfold us
  by_cases e : i = k
  · rw [if_pos e, if_pos e]
  · rw [if_neg e, if_neg e]; exact r i h1 h2
theorem be_rng {N : Int} {s : Int → Int} (hi : Iv N s) {t : Int} (h0 : -1 ≤ t) (h1 : t < s 0) : 0 ≤ beY s t ∧ beY s t ≤ 30 ∧ (t ≠ -1 → beY s t = th s t 2 - th s t 3) ∧ (0 < beY s t → t ≠ -1) := by
  obtain ⟨i0, i1, i2, i3, j2, j3, j4, j5, j6, j7, j8, j9, it, -⟩ := hi
  unfold beY
  by_cases e : t = -1
  · rw [if_pos e]; omega
  · rw [if_neg e]
    have := it t (by omega) h1
    split <;> omega
theorem IB_bo {N : Int} {s : Int → Int} (hi : Iv N s) (hN : N < 1000000) {m o : Int} (h1 : 0 ≤ m) (h2 : m < s 1) (h3 : 0 ≤ o) (h4 : o < s 1) (hc : 0 ≤ s 8 ∧ s 8 < s 9 ∧ s 9 ≤ s 2 ∧ 0 ≤ s 10 ∧ s 10 ≤ N) : IB (boP s m o) := by
  have hi' := hi
  obtain ⟨i0, i1, i2, i3, j2, j3, j4, j5, j6, j7, j8, j9, it, im, -⟩ := hi
  have m1 := im m h1 h2
  have m2 := im o h3 h4
  have b1 := be_rng hi' (t := mn s m 3) (by omega) (by omega)
  have b2 := be_rng hi' (t := mn s o 3) (by omega) (by omega)
  have v1 : 1 ≤ hdv s m 0 1 ∧ hdv s m 0 1 ≤ 6 ∧ 0 ≤ hdv s m 1 0 ∧ hdv s m 1 0 ≤ 9 := by
    unfold hdv
    by_cases e : mn s m 3 = -1
    · simp only [e, ↓reduceIte]; omega
    · have := it (mn s m 3) (by omega) (by omega)
      simp only [e, ↓reduceIte]; omega
  have v2 : 1 ≤ hdv s o 0 1 ∧ hdv s o 0 1 ≤ 6 ∧ 0 ≤ hdv s o 1 0 ∧ hdv s o 1 0 ≤ 9 := by
    unfold hdv
    by_cases e : mn s o 3 = -1
    · simp only [e, ↓reduceIte]; omega
    · have := it (mn s o 3) (by omega) (by omega)
      simp only [e, ↓reduceIte]; omega
  unfold IB
  simp only [bo_all]
  omega
section
variable {X : Xs} {d : Nat} {g : Mem} {s : Int → Int} {N : Int}
theorem re_bo (hi : Iv N s) (hd : s 6 ≠ -1) (t : Int) (ht : t = 0 ∨ t = 1) : reB (boN s) t = reN s (s (6 + t)) := by
  obtain ⟨i0, i1, i2, i3, j2, j3, j4, j5, j6, j7, j8, j9, it, im, iw, ia, ih, i6, iu⟩ := hi
  have u := iu hd
  unfold reB reN
  rcases ht with rfl | rfl
  · simp only [Int.reduceAdd, bo_all]
    by_cases z : 0 < beY s (mn s (s 6) 3)
    · have : mn s (s 6) 3 ≠ -1 := by intro e; rw [e] at z; exact absurd z (by simp [beY])
      simp only [z, ↓reduceIte, hdv, this]
    · simp only [z, ↓reduceIte]
  · simp only [Int.reduceAdd, bo_all]
    by_cases z : 0 < beY s (mn s (s 7) 3)
    · have : mn s (s 7) 3 ≠ -1 := by intro e; rw [e] at z; exact absurd z (by simp [beY])
      simp only [z, ↓reduceIte, hdv, this]
    · simp only [z, ↓reduceIte]
theorem bl_bo (hi : Iv N s) (hd : s 6 ≠ -1) (t : Int) (ht : t = 0 ∨ t = 1) : blB (boN s) t = blN s (s (6 + t)) := by
  obtain ⟨i0, i1, i2, i3, j2, j3, j4, j5, j6, j7, j8, j9, it, im, iw, ia, ih, i6, iu⟩ := hi
  have u := iu hd
  unfold blB blN
  rcases ht with rfl | rfl
  · simp only [Int.reduceAdd, bo_all]
    by_cases z : 0 < beY s (mn s (s 6) 3)
    · have : mn s (s 6) 3 ≠ -1 := by intro e; rw [e] at z; exact absurd z (by simp [beY])
      simp only [z, ↓reduceIte, hdv, this]
    · simp only [z, ↓reduceIte]
  · simp only [Int.reduceAdd, bo_all]
    by_cases z : 0 < beY s (mn s (s 7) 3)
    · have : mn s (s 7) 3 ≠ -1 := by intro e; rw [e] at z; exact absurd z (by simp [beY])
      simp only [z, ↓reduceIte, hdv, this]
    · simp only [z, ↓reduceIte]
theorem m_275 (r : RM g s) (hi : Iv N s) (hd : s 6 ≠ -1) (a : Int) (h0 : 0 ≤ a) (h1 : a ≤ 3) : MI X (d + 5) 275 [.inr (.inr 143), .inl a] S0 (ov g) = some (b2i (caB (boN s) a), S0, ov g) := by
  have hi' := hi
  obtain ⟨i0, i1, i2, i3, j2, j3, j4, j5, j6, j7, j8, j9, it, im, iw, ia, ih, i6, iu⟩ := hi
  have u := iu hd
  have ne : neN s = s 9 - s 8 := by unfold neN; rw [if_neg hd]
  have hm : s 10 % 2 = 0 ∨ s 10 % 2 = 1 := by omega
  have e1 := re_bo hi' hd _ hm
  have w1 : 0 ≤ s (6 + s 10 % 2) ∧ s (6 + s 10 % 2) < s 1 := by
    rcases hm with e | e <;> rw [e] <;> simp only [Int.reduceAdd] <;> omega
  rw [e_275]
  simp (disch := omega) only [↓K_mod, ↓G_mod, ↓al_144 _, ↓oC_of (m_269 r hi'), ↓oC_of (m_270 r _), ↓oC_of (m_271 r _), ↓oC_of (m_255 r hi' _ _ _), r 8, r 9, r 2, ne]
  rw [← e1]
  unfold b2i caB
  simp only [bo_all]
  (repeat' split) <;> first | rfl | (exfalso; omega)
theorem m_276 (r : RM g s) (hi : Iv N s) (hd : s 6 ≠ -1) : MI X (d + 5) 276 [.inr (.inr 143)] S0 (ov g) = some (huB (boN s) (s 10 % 2), S0, ov g) := by
  have hi' := hi
  obtain ⟨i0, i1, i2, i3, j2, j3, j4, j5, j6, j7, j8, j9, it, im, iw, ia, ih, i6, iu⟩ := hi
  have u := iu hd
  have hm : s 10 % 2 = 0 ∨ s 10 % 2 = 1 := by omega
  have e1 := bl_bo hi' hd _ hm
  have w1 : 0 ≤ s (6 + s 10 % 2) ∧ s (6 + s 10 % 2) < s 1 := by
    rcases hm with e | e <;> rw [e] <;> simp only [Int.reduceAdd] <;> omega
  have b1 : 0 ≤ blN s (s (6 + s 10 % 2)) ∧ blN s (s (6 + s 10 % 2)) ≤ 18 := by
    have m1 := im _ w1.1 w1.2
    have b1 := be_rng hi' (t := mn s (s (6 + s 10 % 2)) 3) (by omega) (by omega)
    unfold blN
    split
    · have := it (mn s (s (6 + s 10 % 2)) 3) (by omega) (by omega)
      omega
    · omega
  rw [e_276]
  simp (disch := omega) only [↓K_mod, ↓G_mod, ↓al_144 _, ↓oC_of (m_270 r _), ↓oC_of (m_271 r _), ↓oC_of (m_256 r hi' _ _ _), r 10, r 3, r 4, w32_id]
  unfold huB diB
  rw [e1]
  simp only [bo_all]
  unfold am_max
  (repeat' split) <;> first | rfl | (exfalso; omega) | (congr 2; omega)
end
