/-! a DAWN told, the class: rule, THING, MAN -/
theorem su_zz (f : Int → Int) : ∀ (k : Nat) (m : Int), (∀ i, m ≤ i → i < m + k → f i = 0) → su f k m = 0
  | 0, _, _ => rfl
  | k + 1, m, h => by
    show f m + su f k (m + 1) = 0
    rw [h m (by omega) (by omega), su_zz f k (m + 1) (fun i a b => h i (by omega) (by omega))]
    rfl
theorem aw_0 {s : Int → Int} (h : ∀ m o, 0 ≤ m → 0 ≤ o → o < 6 → mn s m (4 + o) = 0) (h6 : s 1 ≤ 6) : awN s = 0 := su_zz _ _ _ (fun i a b => su_zz _ _ _ (fun j c e => h i j a (by omega) (by omega)))
theorem PU_fg {s : Int → Int} (h : PU s) (h1 : s 0 < 8) {r w k : Int} (hr : fgR r w k) : PU (fgS s r w k) := by
  obtain ⟨iv, a, b, c⟩ := h
  have i0 := iv.1
  obtain ⟨f0, f1, f2, f3, f4, f5⟩ := fg_all r w k i0
  exact ⟨Iv_fg iv h1 hr, (f5 6 (by omega) (by omega)).trans a, (f5 11 (by omega) (by omega)).trans b, fun m o x y z => (f5 _ (by omega) (by omega)).trans (c m o x y z)⟩
theorem PU_rule {s : Int → Int} (h : PU s) {w x : Int} (w0 : 0 ≤ w) (w1 : w < 4) (x0 : roLow w ≤ x) (x1 : x ≤ roHigh w) : PU (us s (2 + w) x) := by
  obtain ⟨iv, a, b, c⟩ := h
  have z : ∀ m o, 0 ≤ m → 0 ≤ o → o < 6 → mn (us s (2 + w) x) m (4 + o) = 0 := fun m o y z v => (us_ne _ _ (by omega)).trans (c m o y z v)
  refine ⟨?_, (us_ne _ _ (by omega)).trans a, (us_ne _ _ (by omega)).trans b, z⟩
  obtain ⟨i0, i1, i2, i3, j2, j3, j4, j5, j6, j7, j8, j9, it, im, iw, ia, ih, i6, iu⟩ := iv
  have k : ∀ j, (j < 2 ∨ 5 < j) → us s (2 + w) x j = s j := fun j y => us_ne _ _ (by omega)
  have e1 := k 1 (by omega)
  have hx : (w = 0 → 2 ≤ x ∧ x ≤ 12) ∧ (w = 1 → 0 ≤ x ∧ x ≤ 99) ∧ (w = 2 → 0 ≤ x ∧ x ≤ 9) ∧ (w = 3 → 0 ≤ x ∧ x ≤ 16) := by
    have hw : w = 0 ∨ w = 1 ∨ w = 2 ∨ w = 3 := by omega
    have l0 : roLow 0 = 2 := rfl
    have l1 : roLow 1 = 0 := rfl
    have l2 : roLow 2 = 0 := rfl
    have l3 : roLow 3 = 0 := rfl
    have h0 : roHigh 0 = 12 := rfl
    have h1 : roHigh 1 = 99 := rfl
    have h2 : roHigh 2 = 9 := rfl
    have h3 : roHigh 3 = 16 := rfl
    rcases hw with rfl | rfl | rfl | rfl <;> omega
  have r : ∀ j, us s (2 + w) x j = if j = 2 + w then x else s j := fun _ => rfl
  unfold Iv
  rw [aw_0 z (by rw [e1]; exact i3), e1, k 0 (by omega), k 6 (by omega)]
  refine ⟨i0, i1, i2, i3, by rw [r]; split <;> omega, by rw [r]; split <;> omega, by rw [r]; split <;> omega, by rw [r]; split <;> omega, by rw [r]; split <;> omega, by rw [r]; split <;> omega, by rw [r]; split <;> omega, by rw [r]; split <;> omega, fun i y v => ?_, fun i y v => ?_, fun i o y v u l => ?_, by omega, fun i o y v u l ne e => ?_, i6, fun y => absurd a y⟩
  · unfold th
    rw [k _ (by omega), k _ (by omega), k _ (by omega), k _ (by omega)]
    exact it i y v
  · unfold mn
    rw [k _ (by omega), k _ (by omega), k _ (by omega), k _ (by omega)]
    exact im i y v
  · rw [z i o y u (by omega)]; omega
  · unfold mn at e ⊢
    rw [k _ (by omega)] at e ⊢
    rw [k _ (by omega)] at e
    exact ih i o y v u l ne e
theorem mn_all {s : Int → Int} (st li : Int) (h : 0 ≤ s 1) : mnS s st li 1 = s 1 + 1 ∧ mn (mnS s st li) (s 1) 0 = st ∧ mn (mnS s st li) (s 1) 1 = li ∧ mn (mnS s st li) (s 1) 2 = li ∧ mn (mnS s st li) (s 1) 3 = -1 ∧ (∀ j, j ≠ 1 → (j < 44 + 10 * s 1 ∨ 44 + 10 * s 1 + 3 < j) → mnS s st li j = s j) := by
  unfold mnS mn
  refine ⟨?_, ?_, ?_, ?_, ?_, fun j h1 h2 => ?_⟩ <;> simp (disch := omega) only [us_ne, us_eq, Int.add_zero]
theorem PU_mn {s : Int → Int} (h : PU s) (h1 : s 1 < 6) {st li : Int} (s0 : 0 ≤ st) (s9 : st ≤ 9) (l0 : 1 ≤ li) (l9 : li ≤ 60) : PU (mnS s st li) := by
  obtain ⟨iv, a, b, c⟩ := h
  obtain ⟨i0, i1, i2, i3, j2, j3, j4, j5, j6, j7, j8, j9, it, im, iw, ia, ih, i6, iu⟩ := iv
  obtain ⟨f1, f2, f3, f4, f5, f6⟩ := mn_all st li i2
  have z : ∀ m o, 0 ≤ m → 0 ≤ o → o < 6 → mn (mnS s st li) m (4 + o) = 0 := fun m o x y v => by
    by_cases e : m < s 1 ∨ s 1 < m ∨ s 1 = m
    · exact (f6 _ (by omega) (by omega)).trans (c m o x y v)
    · omega
  have e6 := f6 6 (by omega) (by omega)
  have old : ∀ i w', 0 ≤ i → i ≠ s 1 → 0 ≤ w' → w' < 10 → mn (mnS s st li) i w' = mn s i w' := fun i w' x y v u => f6 _ (by omega) (by omega)
  refine ⟨?_, e6.trans a, (f6 11 (by omega) (by omega)).trans b, z⟩
  unfold Iv
  rw [f1, f6 0 (by omega) (by omega), f6 2 (by omega) (by omega), f6 3 (by omega) (by omega), f6 4 (by omega) (by omega), f6 5 (by omega) (by omega), e6, aw_0 z (by omega)]
  refine ⟨i0, i1, by omega, by omega, j2, j3, j4, j5, j6, j7, j8, j9, fun i x y => ?_, fun i x y => ?_, fun i o x y v u => ?_, by omega, fun i o x y v u ne e => ?_, i6, fun y => absurd a y⟩
  · have t : ∀ w', 0 ≤ w' → w' < 4 → th (mnS s st li) i w' = th s i w' := fun w' x' y' => f6 _ (by omega) (by omega)
    rw [t 0 (by omega) (by omega), t 1 (by omega) (by omega), t 2 (by omega) (by omega), t 3 (by omega) (by omega)]
    exact it i x y
  · by_cases e : i = s 1
    · rw [e, f2, f3, f4, f5]; omega
    · rw [old i 0 x e (by omega) (by omega), old i 1 x e (by omega) (by omega), old i 2 x e (by omega) (by omega), old i 3 x e (by omega) (by omega)]
      exact im i x (by omega)
  · rw [z i o x v (by omega)]; omega
  · by_cases e1 : i = s 1
    · rw [e1]; exact f5
    · by_cases e2 : o = s 1
      · rw [e, e2]; exact f5
      · rw [old i 3 x e1 (by omega) (by omega)] at e ⊢
        rw [old o 3 v e2 (by omega) (by omega)] at e
        exact ih i o x (by omega) v (by omega) ne e
theorem PU_held {s : Int → Int} (h : PU s) {m x : Int} (m0 : 0 ≤ m) (m1 : m < s 1) (x0 : 0 ≤ x) (x1 : x < s 0) (hx : hoN s x = -1) : PU (us s (44 + 10 * m + 3) x) := by
  obtain ⟨iv, a, b, c⟩ := h
  exact ⟨Iv_um iv x m0 m1 (Or.inr (Or.inr ⟨rfl, Or.inr ⟨x0, x1, hoN_none hx⟩⟩)), (us_ne _ _ (by omega)).trans a, (us_ne _ _ (by omega)).trans b, fun i o y z v => (us_ne _ _ (by omega)).trans (c i o y z v)⟩
/-- a MAN is laid at m of the DAWN at b -/
def mnG (g : Mem) (b m nm st li : Int) : Mem := wr (wr (wr (wr (wr (wr g b 1 (m + 1)) (b + 12) m nm) (b + 6) m st) (b + 7) m li) (b + 8) m li) (b + 9) m (-1)
theorem Cs_fr {t : Int → Int} {n q : Int} {g g' : Mem} (h : Cs t n g q) (fr : ∀ c i, 11 ≤ c → c ≤ 14 → 0 ≤ i → rd g' c i = rd g c i) : Cs t n g' q := by
  obtain ⟨k, j, ta, hj⟩ := h
  have j0 : 0 ≤ j := by
    cases k with
    | zero => exact ta.elim
    | succ k => exact ta.1.2.2.2.2.2.1
  exact ⟨k, j, TA_fr (fr _ _ (by omega) (by omega) (by omega)) k j q (fun c i h z => fr c i (by omega) (by omega) (by omega)) ta, (fr _ _ (by omega) (by omega) (by omega)).trans hj⟩
section
variable {X : Xs} {d : Nat} {g : Mem} {t : Int → Int} {n q b N : Int} {s nm : Int → Int} {told : Int} {σ : Type} {P : Rr σ → Int → Mem → Prop} {f : Int → Sh → Mem → Option Rs}
theorem DSt_fg (hb : isD b) (st : DSt b g s nm told) (pu : PU s) (h1 : s 0 < 8) (v r w k : Int) : DSt b (fgG g b (s 0) v r w k) (fgS s r w k) (us nm (s 0) v) told ∧ (∀ c i, 0 ≤ c → 0 ≤ i → (c < b ∨ b + 12 < c) → rd (fgG g b (s 0) v r w k) c i = rd g c i) := by
  have hb2 := isD_rng hb
  obtain ⟨⟨rr, z, n1, n2⟩, e1, e2, rw', c1, c2⟩ := st
  have i0 := pu.1.1
  have i3 := pu.1.2.2.2.1
  obtain ⟨f0, -, -, -, -, f5⟩ := fg_all r w k i0
  have fr : ∀ c i, 0 ≤ c → 0 ≤ i → (c < b ∨ b + 12 < c) → rd (fgG g b (s 0) v r w k) c i = rd g c i := fun c i a e h => by
    unfold fgG; simp (disch := omega) only [rd_wr_ne]
  refine ⟨⟨⟨RD_fg hb rr i0 h1 _ _ _ _, fun i x y => ?_, fun i x y => ?_, fun i x y => ?_⟩, ?_, ?_, RW_fr rw' (fun i a => fr _ _ (by omega) a (by omega)), ?_, ?_⟩, fr⟩
  · unfold fgG; simp (disch := omega) only [rd_wr_ne]; exact z i x y
  · rw [f0] at y
    have e : rd (fgG g b (s 0) v r w k) (b + 11) i = if i = s 0 then v else rd g (b + 11) i := by
      unfold fgG
      rw [rd_wr_ne _ _ _ _ (by omega) (by omega) (by omega), rd_wr_ne _ _ _ _ (by omega) (by omega) (by omega), rd_wr_ne _ _ _ _ (by omega) (by omega) (by omega), rd_wr_ne _ _ _ _ (by omega) (by omega) (by omega), rd_wr_if _ _ _ i0 x, rd_wr_ne _ _ _ _ (by omega) (by omega) (by omega)]
    rw [e]
    unfold us
    by_cases w' : i = s 0
    · rw [if_pos w', if_pos w']
    · rw [if_neg w', if_neg w']; exact n1 i x (by omega)
  · rw [f5 1 (by omega) (by omega)] at y
    rw [us_ne _ _ (by omega)]
    unfold fgG; simp (disch := omega) only [rd_wr_ne]; exact n2 i x y
  · rw [fr _ _ (by omega) (by omega) (by omega)]; exact e1
  · rw [fr _ _ (by omega) (by omega) (by omega)]; exact e2
  · rw [fr _ _ (by omega) (by omega) (by omega)]; exact c1
  · rw [fr _ _ (by omega) (by omega) (by omega)]; exact c2
theorem RD_mn (hb : isD b) (rr : RD g b s) (h8 : s 0 ≤ 8) (h0 : 0 ≤ s 1) (h1 : s 1 < 6) (z : ∀ i, 0 ≤ i → i < 36 → rd g (b + 10) i = 0) (zs : ∀ m o, 0 ≤ m → 0 ≤ o → o < 6 → mn s m (4 + o) = 0) (nm st li : Int) : RD (mnG g b (s 1) nm st li) b (mnS s st li) := by
  have hb2 := isD_rng hb
  obtain ⟨f1, f2, f3, f4, f5, f6⟩ := mn_all st li h0
  obtain ⟨r0, r1, r2, rt, rm, rw', r6, r7⟩ := rr
  have ne : ∀ c j, 0 ≤ c → c ≠ b → c ≠ b + 12 → (c < b + 6 ∨ b + 9 < c) → rd (mnG g b (s 1) nm st li) c j = rd g c j := fun c j a e1 e2 e3 => by
    unfold mnG; simp (disch := omega) only [rd_wr_ne]
  have nb : ∀ j, 0 ≤ j → j ≠ 1 → rd (mnG g b (s 1) nm st li) b j = rd g b j := fun j a e => by
    unfold mnG; simp (disch := omega) only [rd_wr_ne, rd_wr_ix]
  have n0 : rd (mnG g b (s 1) nm st li) b 1 = s 1 + 1 := by
    unfold mnG; simp (disch := omega) only [rd_wr_ne, rd_wr_eq]
  have t6 : ∀ i, 0 ≤ i → rd (mnG g b (s 1) nm st li) (b + 6) i = if i = s 1 then st else rd g (b + 6) i := fun i a => by
    unfold mnG
    simp (disch := omega) only [rd_wr_ne, rd_wr_if]
  have t7 : ∀ i, 0 ≤ i → rd (mnG g b (s 1) nm st li) (b + 7) i = if i = s 1 then li else rd g (b + 7) i := fun i a => by
    unfold mnG
    simp (disch := omega) only [rd_wr_ne, rd_wr_if]
  have t8 : ∀ i, 0 ≤ i → rd (mnG g b (s 1) nm st li) (b + 8) i = if i = s 1 then li else rd g (b + 8) i := fun i a => by
    unfold mnG
    simp (disch := omega) only [rd_wr_ne, rd_wr_if]
  have t9 : ∀ i, 0 ≤ i → rd (mnG g b (s 1) nm st li) (b + 9) i = if i = s 1 then -1 else rd g (b + 9) i := fun i a => by
    unfold mnG
    simp (disch := omega) only [rd_wr_ne, rd_wr_if]
  unfold RD
  rw [f1, f6 0 (by omega) (by omega), f6 6 (by omega) (by omega), f6 7 (by omega) (by omega), f6 8 (by omega) (by omega), f6 9 (by omega) (by omega), f6 10 (by omega) (by omega), n0, nb 0 (by omega) (by omega), nb 14 (by omega) (by omega), nb 15 (by omega) (by omega), nb 16 (by omega) (by omega), nb 17 (by omega) (by omega), nb 18 (by omega) (by omega)]
  refine ⟨r0, rfl, fun i a c => ?_, fun i a c => ?_, fun i a c => ?_, fun m o a c e f => ?_, r6, r7⟩
  · rw [ne _ _ (by omega) (by omega) (by omega) (by omega), f6 _ (by omega) (by omega)]; exact r2 i a c
  · unfold th
    rw [ne _ _ (by omega) (by omega) (by omega) (by omega), ne _ _ (by omega) (by omega) (by omega) (by omega), ne _ _ (by omega) (by omega) (by omega) (by omega), ne _ _ (by omega) (by omega) (by omega) (by omega), f6 _ (by omega) (by omega), f6 _ (by omega) (by omega), f6 _ (by omega) (by omega), f6 _ (by omega) (by omega)]
    exact rt i a c
  · rw [t6 i a, t7 i a, t8 i a, t9 i a]
    by_cases e : i = s 1
    · rw [if_pos e, if_pos e, if_pos e, if_pos e, e]
      exact ⟨f2.symm, f3.symm, f4.symm, f5.symm⟩
    · rw [if_neg e, if_neg e, if_neg e, if_neg e]
      unfold mn
      rw [f6 _ (by omega) (by omega), f6 _ (by omega) (by omega), f6 _ (by omega) (by omega), f6 _ (by omega) (by omega)]
      exact rm i a (by omega)
  · rw [ne _ _ (by omega) (by omega) (by omega) (by omega), z _ (by omega) (by omega)]
    unfold mn
    rw [f6 _ (by omega) (by omega)]
    exact (zs m o a e (by omega)).symm
end
