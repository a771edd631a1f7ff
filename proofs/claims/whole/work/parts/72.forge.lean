/-! forge of both -/
def fgS (s : Int → Int) (r w k : Int) : Int → Int := us (us (us (us (us s 0 (s 0 + 1)) (12 + 4 * s 0) r) (12 + 4 * s 0 + 1) w) (12 + 4 * s 0 + 2) k) (12 + 4 * s 0 + 3) 0
def fgG (g : Mem) (b t nm r w k : Int) : Mem := wr (wr (wr (wr (wr (wr g b 0 (t + 1)) (b + 11) t nm) (b + 2) t r) (b + 3) t w) (b + 4) t k) (b + 5) t 0
theorem fg_all {s : Int → Int} (r w k : Int) (h : 0 ≤ s 0) : fgS s r w k 0 = s 0 + 1 ∧ th (fgS s r w k) (s 0) 0 = r ∧ th (fgS s r w k) (s 0) 1 = w ∧ th (fgS s r w k) (s 0) 2 = k ∧ th (fgS s r w k) (s 0) 3 = 0 ∧ (∀ j, j ≠ 0 → (j < 12 + 4 * s 0 ∨ 12 + 4 * s 0 + 3 < j) → fgS s r w k j = s j) := by
  unfold fgS th
  refine ⟨?_, ?_, ?_, ?_, ?_, fun j h1 h2 => ?_⟩ <;> simp (disch := omega) only [us_ne, us_eq, Int.add_zero]
abbrev fgR (r w k : Int) : Prop := (1 ≤ r ∧ r ≤ 6) ∧ (0 ≤ w ∧ w ≤ 9) ∧ (1 ≤ k ∧ k ≤ 30)
def qForge (s : Int → Int) (r w k : Int) : Int × Int := if fgR r w k then (if s 0 = 8 then (-1, 4) else (s 0, 0)) else (-1, 1)
def uForge (s : Int → Int) (r w k : Int) : Int → Int := if fgR r w k ∧ ¬ s 0 = 8 then fgS s r w k else s
section
variable {X : Xs} {d : Nat} {g : Mem} {s : Int → Int} {b N : Int}
theorem RD_fg (hb : isD b) (rr : RD g b s) (h0 : 0 ≤ s 0) (h1 : s 0 < 8) (nm r w k : Int) : RD (fgG g b (s 0) nm r w k) b (fgS s r w k) := by
  have hb2 := isD_rng hb
  obtain ⟨f0, f1, f2, f3, f4, f5⟩ := fg_all r w k h0
  obtain ⟨r0, r1, r2, rt, rm, rw', r6, r7⟩ := rr
  have ne : ∀ c j, 0 ≤ c → c ≠ b → c ≠ b + 11 → (c < b + 2 ∨ b + 5 < c) → rd (fgG g b (s 0) nm r w k) c j = rd g c j := fun c j a e1 e2 e3 => by
    unfold fgG; simp (disch := omega) only [rd_wr_ne]
  have nb : ∀ j, 0 < j → rd (fgG g b (s 0) nm r w k) b j = rd g b j := fun j a => by
    unfold fgG; simp (disch := omega) only [rd_wr_ne, rd_wr_ix]
  have n0 : rd (fgG g b (s 0) nm r w k) b 0 = s 0 + 1 := by
    unfold fgG; simp (disch := omega) only [rd_wr_ne, rd_wr_eq]
  have t2 : ∀ i, 0 ≤ i → rd (fgG g b (s 0) nm r w k) (b + 2) i = if i = s 0 then r else rd g (b + 2) i := fun i a => by
    unfold fgG
    rw [rd_wr_ne _ _ _ _ (by omega) (by omega) (by omega), rd_wr_ne _ _ _ _ (by omega) (by omega) (by omega), rd_wr_ne _ _ _ _ (by omega) (by omega) (by omega), rd_wr_if _ _ _ h0 a, rd_wr_ne _ _ _ _ (by omega) (by omega) (by omega), rd_wr_ne _ _ _ _ (by omega) (by omega) (by omega)]
  have t3 : ∀ i, 0 ≤ i → rd (fgG g b (s 0) nm r w k) (b + 3) i = if i = s 0 then w else rd g (b + 3) i := fun i a => by
    unfold fgG
    rw [rd_wr_ne _ _ _ _ (by omega) (by omega) (by omega), rd_wr_ne _ _ _ _ (by omega) (by omega) (by omega), rd_wr_if _ _ _ h0 a, rd_wr_ne _ _ _ _ (by omega) (by omega) (by omega), rd_wr_ne _ _ _ _ (by omega) (by omega) (by omega), rd_wr_ne _ _ _ _ (by omega) (by omega) (by omega)]
  have t4 : ∀ i, 0 ≤ i → rd (fgG g b (s 0) nm r w k) (b + 4) i = if i = s 0 then k else rd g (b + 4) i := fun i a => by
    unfold fgG
    rw [rd_wr_ne _ _ _ _ (by omega) (by omega) (by omega), rd_wr_if _ _ _ h0 a, rd_wr_ne _ _ _ _ (by omega) (by omega) (by omega), rd_wr_ne _ _ _ _ (by omega) (by omega) (by omega), rd_wr_ne _ _ _ _ (by omega) (by omega) (by omega), rd_wr_ne _ _ _ _ (by omega) (by omega) (by omega)]
  have t5 : ∀ i, 0 ≤ i → rd (fgG g b (s 0) nm r w k) (b + 5) i = if i = s 0 then 0 else rd g (b + 5) i := fun i a => by
    unfold fgG
    rw [rd_wr_if _ _ _ h0 a, rd_wr_ne _ _ _ _ (by omega) (by omega) (by omega), rd_wr_ne _ _ _ _ (by omega) (by omega) (by omega), rd_wr_ne _ _ _ _ (by omega) (by omega) (by omega), rd_wr_ne _ _ _ _ (by omega) (by omega) (by omega), rd_wr_ne _ _ _ _ (by omega) (by omega) (by omega)]
  unfold RD
  have q1 := f5 1 (by omega) (by omega)
  have q6 := f5 6 (by omega) (by omega)
  rw [f0, q1, q6, f5 7 (by omega) (by omega), f5 8 (by omega) (by omega), f5 9 (by omega) (by omega), f5 10 (by omega) (by omega), n0, nb 1 (by omega), nb 14 (by omega), nb 15 (by omega), nb 16 (by omega), nb 17 (by omega), nb 18 (by omega)]
  refine ⟨rfl, r1, fun i a c => ?_, fun i a c => ?_, fun m a c => ?_, fun m o a c e f => ?_, r6, r7⟩
  · rw [ne _ _ (by omega) (by omega) (by omega) (by omega), f5 _ (by omega) (by omega)]; exact r2 i a c
  · rw [t2 i a, t3 i a, t4 i a, t5 i a]
    by_cases e : i = s 0
    · rw [if_pos e, if_pos e, if_pos e, if_pos e, e]
      exact ⟨f1.symm, f2.symm, f3.symm, f4.symm⟩
    · rw [if_neg e, if_neg e, if_neg e, if_neg e]
      unfold th
      rw [f5 _ (by omega) (by omega), f5 _ (by omega) (by omega), f5 _ (by omega) (by omega), f5 _ (by omega) (by omega)]
      exact rt i a (by omega)
  · unfold mn
    rw [ne _ _ (by omega) (by omega) (by omega) (by omega), ne _ _ (by omega) (by omega) (by omega) (by omega), ne _ _ (by omega) (by omega) (by omega) (by omega), ne _ _ (by omega) (by omega) (by omega) (by omega), f5 _ (by omega) (by omega), f5 _ (by omega) (by omega), f5 _ (by omega) (by omega), f5 _ (by omega) (by omega)]
    exact rm m a c
  · unfold mn
    rw [ne _ _ (by omega) (by omega) (by omega) (by omega), f5 _ (by omega) (by omega)]
    exact rw' m o a c e f
theorem c_20 (hb : isD b) (rr : RD g b s) (h0 : 0 ≤ s 0) (h1 : s 0 < 8) (nm r w k : Int) : MI X d 20 [.inr (.inr b), .inr (.inl nm), .inl r, .inl w, .inl k] S0 (ov g) = some (s 0, S0, ov (fgG g b (s 0) nm r w k)) := by
  have hb2 := isD_rng hb
  have r0 := rr.1
  rw [e_20]
  simp (disch := omega) only [↓K_daw hb, ↓G_daw hb, ↓P_daw hb, ↓al_D1 _ hb, ↓as_D1 hb, ↓al_D2 _ hb, ↓as_D2 hb, ↓al_D3 _ hb, ↓as_D3 hb, ↓al_D4 _ hb, ↓as_D4 hb, ↓al_D5 _ hb, ↓as_D5 hb, ↓al_D6 _ hb, ↓as_D6 hb, ↓al_D7 _ hb, ↓as_D7 hb, ↓al_D8 _ hb, ↓as_D8 hb, ↓al_D9 _ hb, ↓as_D9 hb, ↓al_D10 _ hb, ↓as_D10 hb, ↓al_D11 hb, ↓as_D11 hb, ↓al_D12 hb, ↓as_D12 hb, r0, w32_id]
  rfl
theorem Iv_fg (hi : Iv N s) (h1 : s 0 < 8) {r w k : Int} (h : fgR r w k) : Iv N (fgS s r w k) := by
  obtain ⟨i0, i1, i2, i3, j2, j3, j4, j5, j6, j7, j8, j9, it, im, iw, ia, ih, i6, iu⟩ := hi
  obtain ⟨f0, f1, f2, f3, f4, f5⟩ := fg_all r w k i0
  have mm : ∀ i w', 0 ≤ i → 0 ≤ w' → mn (fgS s r w k) i w' = mn s i w' := fun i w' a c => f5 _ (by omega) (by omega)
  have k1 := f5 1 (by omega) (by omega)
  have k6 := f5 6 (by omega) (by omega)
  have k7 := f5 7 (by omega) (by omega)
  have ax : awN (fgS s r w k) = awN s := aw_eq k1 (fun i o a b c e => mm _ _ a (by omega))
  unfold Iv
  rw [f0, k1, f5 2 (by omega) (by omega), f5 3 (by omega) (by omega), f5 4 (by omega) (by omega), f5 5 (by omega) (by omega), k6, k7, f5 8 (by omega) (by omega), f5 9 (by omega) (by omega), f5 10 (by omega) (by omega), ax]
  refine ⟨by omega, by omega, i2, i3, j2, j3, j4, j5, j6, j7, j8, j9, fun i a b => ?_, fun i a b => ?_, fun i o a b c e => ?_, ia, fun i o a b c e f => ?_, i6, fun z => ?_⟩
  · by_cases e : i = s 0
    · rw [e, f1, f2, f3, f4]
      unfold fgR at h; omega
    · have q := it i a (by omega)
      have t : ∀ w', 0 ≤ w' → w' < 4 → th (fgS s r w k) i w' = th s i w' := fun w' a b => f5 _ (by omega) (by omega)
      rw [t 0 (by omega) (by omega), t 1 (by omega) (by omega), t 2 (by omega) (by omega), t 3 (by omega) (by omega)]
      exact q
  · have q := im i a b
    rw [mm i 0 a (by omega), mm i 1 a (by omega), mm i 2 a (by omega), mm i 3 a (by omega)]
    omega
  · rw [mm i _ a (by omega)]; exact iw i o a b c e
  · rw [mm i 3 a (by omega), mm o 3 c (by omega)]; exact ih i o a b c e f
  · obtain ⟨u0, u1, u2, u3, u4, u5, u6, u7, u8, u9, u10, u11⟩ := iu z
    rw [mm (s 6) 1 u0 (by omega), mm (s 7) 1 u2 (by omega)]
    exact ⟨u0, u1, u2, u3, u4, u5, u6, u7, u8, u9, u10, u11⟩
theorem Iv_uForge (hi : Iv N s) (r w k : Int) : Iv N (uForge s r w k) := by
  unfold uForge
  split
  case isFalse => exact hi
  case isTrue h => exact Iv_fg hi (by have := hi.2.1; omega) h.1
theorem FCD_fg (g : Mem) {t : Int} (ht : 0 ≤ t) (nm r w k : Int) : FCD (wr g 30 t nm) (fgG g 19 t nm r w k) := fun c i a b' e f k' => by
  unfold fgG
  rw [rd_wr_ne _ _ _ _ (by omega) (by omega) (by omega), rd_wr_ne _ _ _ _ (by omega) (by omega) (by omega), rd_wr_ne _ _ _ _ (by omega) (by omega) (by omega), rd_wr_ne _ _ _ _ (by omega) (by omega) (by omega)]
  by_cases z : c = 30
  · subst z
    rw [show (19 : Int) + 11 = 30 from rfl, rd_wr_if _ _ _ ht b', rd_wr_if _ _ _ ht b', rd_wr_ne _ _ _ _ (by omega) (by omega) (by omega)]
  · rw [rd_wr_ne _ _ _ _ (by omega) (by omega) (by omega), rd_wr_ne _ _ _ _ (by omega) (by omega) (by omega), rd_wr_ne _ _ _ _ (by omega) (by omega) (by omega)]
/-- the name of a new THING is none -/
def nmC (g : Mem) (s : Int → Int) (r w k : Int) : Mem := if fgR r w k ∧ ¬ s 0 = 8 then wr g 30 (s 0) 0 else g
def nmM (g : Mem) (s : Int → Int) (r w k : Int) : Mem := if fgR r w k ∧ ¬ s 0 = 8 then wr g 145 (s 0) 0 else g
theorem c_153 (rr : RD g 19 s) (hi : Iv N s) (r w k : Int) : AnCD (nmC g s r w k) (qForge s r w k) (uForge s r w k) (MI X (d + 1) 153 [.inr (.inr 1), .inl r, .inl w, .inl k] S0 (ov g)) := by
  have hb := isD19
  obtain ⟨i0, i1, -⟩ := id hi
  have r0 := rr.1
  rw [e_153]
  unfold qForge uForge nmC
  have bad : ¬ fgR r w k → ∀ (e : Nat), AnCD (if fgR r w k ∧ ¬ s 0 = 8 then wr g 30 (s 0) 0 else g) (if fgR r w k then (if s 0 = 8 then (-1, 4) else (s 0, 0)) else (-1, 1)) (if fgR r w k ∧ ¬ s 0 = 8 then fgS s r w k else s) (if kd S0 1 = 10 then (oC (MI X d 183 [.inr (.inr 1), .inl 1] S0 (ov g)) fun r1 S1 m1 => some (r1, S1, m1)) else none) := fun h _ => by
    rw [if_neg h, if_neg (fun z => h z.1), if_neg (fun z => h z.1), K_top]
    exact CD_no rr (FCD_rf g) 1
  by_cases c1 : r < 1
  · rw [if_pos c1]; exact bad (by unfold fgR; omega) 0
  by_cases c2 : 6 < r
  · rw [if_neg c1, if_pos c2]; exact bad (by unfold fgR; omega) 0
  by_cases c3 : w < 0
  · rw [if_neg c1, if_neg c2, if_pos c3]; exact bad (by unfold fgR; omega) 0
  by_cases c4 : 9 < w
  · rw [if_neg c1, if_neg c2, if_neg c3, if_pos c4]; exact bad (by unfold fgR; omega) 0
  by_cases c5 : k < 1
  · rw [if_neg c1, if_neg c2, if_neg c3, if_neg c4, if_pos c5]; exact bad (by unfold fgR; omega) 0
  by_cases c6 : 30 < k
  · rw [if_neg c1, if_neg c2, if_neg c3, if_neg c4, if_neg c5, if_pos c6]; exact bad (by unfold fgR; omega) 0
  have y : fgR r w k := by unfold fgR; omega
  rw [if_neg c1, if_neg c2, if_neg c3, if_neg c4, if_neg c5, if_neg c6]
  simp only [↓K_top, ↓G_top, ↓P_top, ↓K_daw hb, ↓G_daw hb, r0]
  by_cases h : s 0 < 8
  · have y2 : fgR r w k ∧ ¬ s 0 = 8 := ⟨y, by omega⟩
    rw [if_pos h, if_pos y2, if_pos y, if_neg y2.2, if_pos y2, oC_of (c_20 hb rr i0 h _ _ _ _)]
    exact CD_tell (RD_fg hb rr i0 h _ _ _ _) (FCD_fg g i0 _ _ _ _) _
  · have y2 : ¬ (fgR r w k ∧ ¬ s 0 = 8) := fun z => by omega
    rw [if_neg h, if_neg y2, if_pos y, if_pos (show s 0 = 8 by omega), if_neg y2]
    exact CD_no rr (FCD_rf g) 4
theorem m_289 (rr : RM g s) (hi : Iv N s) (r w k : Int) : AnMD (nmM g s r w k) (qForge s r w k) (uForge s r w k) (MI X (d + 1) 289 [.inr (.inr 143), .inl r, .inl w, .inl k] S0 (ov g)) := by
  obtain ⟨i0, i1, -⟩ := id hi
  have a0 : rd g 144 0 = s 0 := rr 0 (by omega) (by omega)
  rw [e_289]
  unfold qForge uForge nmM
  simp only [↓oC_of (m_212 _ _ _ _ _), ↓if_b2i, ↓K_mod]
  have bad : ¬ fgR r w k → ∀ (e : Nat), AnMD (if fgR r w k ∧ ¬ s 0 = 8 then wr g 145 (s 0) 0 else g) (if fgR r w k then (if s 0 = 8 then (-1, 4) else (s 0, 0)) else (-1, 1)) (if fgR r w k ∧ ¬ s 0 = 8 then fgS s r w k else s) (oC (MI X d 201 [.inr (.inr 143), .inl 1] S0 (ov g)) fun r1 S1 m1 => some (r1, S1, m1)) := fun h _ => by
    rw [if_neg h, if_neg (fun z => h z.1), if_neg (fun z => h z.1)]
    exact MD_no rr (FND_rf g) 1
  by_cases c1 : 1 ≤ r ∧ r ≤ 6
  case neg => rw [if_neg c1]; exact bad (fun z => c1 z.1) 0
  by_cases c2 : 0 ≤ w ∧ w ≤ 9
  case neg => rw [if_pos c1, if_neg c2]; exact bad (fun z => c2 z.2.1) 0
  by_cases c3 : 1 ≤ k ∧ k ≤ 30
  case neg => rw [if_pos c1, if_pos c2, if_neg c3]; exact bad (fun z => c3 z.2.2) 0
  have y : fgR r w k := ⟨c1, c2, c3⟩
  rw [if_pos c1, if_pos c2, if_pos c3]
  simp (disch := omega) only [↓K_mod, ↓G_mod, ↓al_144 _, a0]
  by_cases h : s 0 = 8
  · have y2 : ¬ (fgR r w k ∧ ¬ s 0 = 8) := fun z => z.2 h
    rw [if_pos h, if_neg y2, if_pos y, if_pos h, if_neg y2]
    exact MD_no rr (FND_rf g) 4
  · have y2 : fgR r w k ∧ ¬ s 0 = 8 := ⟨y, h⟩
    rw [if_neg h, if_pos y2, if_pos y, if_neg h, if_pos y2]
    simp (disch := omega) only [↓K_mod, ↓G_mod, ↓P_mod, ↓al_144 _, ↓as_144, ↓as_145, ↓oC_of (m_231 _ _ _ _ _), w32_id]
    refine MD_tell ?_ ?_ _
    · exact RM_wo (RM_us (RM_us (RM_us (RM_us (RM_us rr _ (by omega)) _ (by omega)) _ (by omega)) _ (by omega)) _ (by omega)) _ _ (by omega) (by omega)
    · intro c i a b' e f k'
      by_cases z : c = 145
      · subst z
        rw [rd_wr_if _ _ _ i0 b', rd_wr_if _ _ _ i0 b']
        simp (disch := omega) only [rd_wr_ne]
      · rw [rd_wr_ne _ _ _ _ (by omega) (by omega) (by omega), show rd (wr g 145 (s 0) 0) c i = rd g c i from rd_wr_ne _ _ _ _ (by omega) (by omega) (by omega)]
        by_cases z2 : c = 144
        · subst z2; simp (disch := omega) only [rd_wr_ix]
        · simp (disch := omega) only [rd_wr_ne]
end
