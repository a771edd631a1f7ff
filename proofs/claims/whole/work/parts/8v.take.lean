/-! a DAWN with its YEARS is taken over, the class -/
def lnD (k : Int) : Nat := if k = 1 then 4 else if k ≤ 5 then 8 else if k ≤ 9 then 6 else if k = 10 then 36 else if k = 11 then 8 else if k = 12 then 6 else 30
theorem D_row {b : Int} (hb : isD b) {k : Int} (h : (1 ≤ k ∧ k ≤ 12) ∨ (14 ≤ k ∧ k ≤ 20)) : kd S0 (b + k) = (if k = 11 ∨ k = 12 then 21 else 20) ∧ ln S0 (b + k) = lnD k ∧ ∀ j, rT (b + k).toNat j = none := by
  have hk : k = 1 ∨ k = 2 ∨ k = 3 ∨ k = 4 ∨ k = 5 ∨ k = 6 ∨ k = 7 ∨ k = 8 ∨ k = 9 ∨ k = 10 ∨ k = 11 ∨ k = 12 ∨ k = 14 ∨ k = 15 ∨ k = 16 ∨ k = 17 ∨ k = 18 ∨ k = 19 ∨ k = 20 := by omega
  rcases hb with rfl | rfl | rfl | rfl | rfl <;> rcases hk with rfl | rfl | rfl | rfl | rfl | rfl | rfl | rfl | rfl | rfl | rfl | rfl | rfl | rfl | rfl | rfl | rfl | rfl | rfl <;> exact ⟨rfl, rfl, fun _ => rfl⟩
theorem acp_D (X : Xs) (g : Mem) {b b' : Int} (hb : isD b) (hb' : isD b') {k n : Int} (h : (1 ≤ k ∧ k ≤ 12) ∨ (14 ≤ k ∧ k ≤ 20)) (n0 : 0 ≤ n) (h1 : n ≤ (lnD k : Int)) {A : Type} (x : A) (f : Mem → A) : oK (acp X S0 (ov g) (b' + k) 0 (b + k) 0 n) x f = f (ov (cp g (b + k) (b' + k) 0 0 n)) := by
  have := isD_rng hb'
  obtain ⟨k1, l1, r1⟩ := D_row hb' h
  obtain ⟨k2, l2, r2⟩ := D_row hb h
  rw [acp_pos X g (K := if k = 11 ∨ k = 12 then 21 else 20) (lr := lnD k) (lq := lnD k) (by split <;> simp) (by omega) k1 k2 l1 l2 r2 r1 (by omega) (by omega) n0 (by omega) (by omega)]
  rfl
theorem rd_cp_in (h : Mem) {q r n i : Int} (hq : 0 ≤ q) (hn : 0 ≤ n) (hi : 0 ≤ i) (h1 : i < n) : rd (cp h q r 0 0 n) q i = rd h r i := by
  rw [rd_cp h hq hq (by omega) (by omega) hn hi, if_pos ⟨rfl, hi, by omega⟩]
  congr 1
  omega
/-- the DAWN at b (of g') is that at b' (of g), YEARS too -/
def TK (g : Mem) (b' : Int) (g' : Mem) (b : Int) : Prop :=
  (rd g' b 0 = rd g b' 0 ∧ rd g' b 1 = rd g b' 1 ∧ rd g' b 14 = rd g b' 14 ∧ rd g' b 15 = rd g b' 15 ∧ rd g' b 16 = rd g b' 16 ∧ rd g' b 17 = rd g b' 17 ∧ rd g' b 18 = rd g b' 18) ∧
  (∀ k i : Int, 1 ≤ k → k ≤ 12 → 0 ≤ i → i < (lnD k : Int) → rd g' (b + k) i = rd g (b' + k) i) ∧ rd g' (b + 13) 0 = rd g (b' + 13) 0 ∧ rd g' (b + 13) 1 = rd g (b' + 13) 1 ∧
  (∀ k i, 14 ≤ k → k ≤ 20 → 0 ≤ i → i < rd g (b' + 13) 1 → rd g' (b + k) i = rd g (b' + k) i)
/-- nothing but the cells of the DAWN at b is other -/
def FB2 (b : Int) (g g' : Mem) : Prop := ∀ c i, 0 ≤ c → 0 ≤ i → (c < b ∨ b + 20 < c) → rd g' c i = rd g c i
theorem RD_TK {g g' : Mem} {b b' : Int} {s : Int → Int} (r : RD g b' s) (t : TK g b' g' b) (h8 : s 0 ≤ 8) (h6 : s 1 ≤ 6) : RD g' b s := by
  obtain ⟨r0, r1, r2, rt, rm, rw', r6, r7⟩ := r
  obtain ⟨⟨a0, a1, a14, a15, a16, a17, a18⟩, ta, -, -, -⟩ := t
  unfold RD
  rw [a0, a1, a14, a15, a16, a17, a18]
  refine ⟨r0, r1, fun i x y => ?_, fun i x y => ?_, fun i x y => ?_, fun m o x y z w => ?_, r6, r7⟩
  · rw [ta 1 i (by omega) (by omega) x (by have : ((lnD 1 : Nat) : Int) = 4 := rfl; omega)]; exact r2 i x y
  · rw [ta 2 i (by omega) (by omega) x (by have : ((lnD 2 : Nat) : Int) = 8 := rfl; omega), ta 3 i (by omega) (by omega) x (by have : ((lnD 3 : Nat) : Int) = 8 := rfl; omega), ta 4 i (by omega) (by omega) x (by have : ((lnD 4 : Nat) : Int) = 8 := rfl; omega), ta 5 i (by omega) (by omega) x (by have : ((lnD 5 : Nat) : Int) = 8 := rfl; omega)]
    exact rt i x y
  · rw [ta 6 i (by omega) (by omega) x (by have : ((lnD 6 : Nat) : Int) = 6 := rfl; omega), ta 7 i (by omega) (by omega) x (by have : ((lnD 7 : Nat) : Int) = 6 := rfl; omega), ta 8 i (by omega) (by omega) x (by have : ((lnD 8 : Nat) : Int) = 6 := rfl; omega), ta 9 i (by omega) (by omega) x (by have : ((lnD 9 : Nat) : Int) = 6 := rfl; omega)]
    exact rm i x y
  · rw [ta 10 _ (by omega) (by omega) (by omega) (by have : ((lnD 10 : Nat) : Int) = 36 := rfl; omega)]; exact rw' m o x y z w
section
variable {X : Xs} {d : Nat} {g : Mem} {b b' : Int}
theorem c_116 (hb : isD b) (hb' : isD b') (hn : b ≠ b') (h0 : rd g (b' + 13) 0 = 0 ∨ rd g (b' + 13) 0 = 1) (h1 : 0 ≤ rd g (b' + 13) 1) (h2 : rd g (b' + 13) 1 ≤ 30) : Ok (fun _ g' => rd g' (b + 13) 0 = rd g (b' + 13) 0 ∧ rd g' (b + 13) 1 = rd g (b' + 13) 1 ∧ (∀ k i, 14 ≤ k → k ≤ 20 → 0 ≤ i → i < rd g (b' + 13) 1 → rd g' (b + k) i = rd g (b' + k) i) ∧ (∀ c i, 0 ≤ c → 0 ≤ i → (c < b + 13 ∨ b + 20 < c) → rd g' c i = rd g c i)) (MI X d 116 [.inr (.inr (b + 13)), .inr (.inr (b' + 13))] S0 (ov g)) := by
  have r1 := isD_rng hb
  have r2 := isD_rng hb'
  have hs : b + 20 < b' ∨ b' + 20 < b := by unfold isD at hb hb'; omega
  have u : unV 3 (.inl (rd g (b' + 13) 0)) = some (rd g (b' + 13) 0) := if_pos h0
  have l : ∀ k : Int, 14 ≤ k → k ≤ 20 → (lnD k : Int) = 30 := fun k a c => by unfold lnD; simp (disch := omega) only [if_neg]; rfl
  generalize hst : rd g (b' + 13) 1 = n at *
  have a14 : ∀ (h : Mem) (f : Mem → Option Rs), oK (acp X S0 (ov h) (b' + 14) 0 (b + 14) 0 n) none f = f (ov (cp h (b + 14) (b' + 14) 0 0 n)) := fun h f => acp_D X h hb hb' (by omega) h1 (by rw [l 14 (by omega) (by omega)]; exact h2) none f
  have a15 : ∀ (h : Mem) (f : Mem → Option Rs), oK (acp X S0 (ov h) (b' + 15) 0 (b + 15) 0 n) none f = f (ov (cp h (b + 15) (b' + 15) 0 0 n)) := fun h f => acp_D X h hb hb' (by omega) h1 (by rw [l 15 (by omega) (by omega)]; exact h2) none f
  have a16 : ∀ (h : Mem) (f : Mem → Option Rs), oK (acp X S0 (ov h) (b' + 16) 0 (b + 16) 0 n) none f = f (ov (cp h (b + 16) (b' + 16) 0 0 n)) := fun h f => acp_D X h hb hb' (by omega) h1 (by rw [l 16 (by omega) (by omega)]; exact h2) none f
  have a17 : ∀ (h : Mem) (f : Mem → Option Rs), oK (acp X S0 (ov h) (b' + 17) 0 (b + 17) 0 n) none f = f (ov (cp h (b + 17) (b' + 17) 0 0 n)) := fun h f => acp_D X h hb hb' (by omega) h1 (by rw [l 17 (by omega) (by omega)]; exact h2) none f
  have a18 : ∀ (h : Mem) (f : Mem → Option Rs), oK (acp X S0 (ov h) (b' + 18) 0 (b + 18) 0 n) none f = f (ov (cp h (b + 18) (b' + 18) 0 0 n)) := fun h f => acp_D X h hb hb' (by omega) h1 (by rw [l 18 (by omega) (by omega)]; exact h2) none f
  have a19 : ∀ (h : Mem) (f : Mem → Option Rs), oK (acp X S0 (ov h) (b' + 19) 0 (b + 19) 0 n) none f = f (ov (cp h (b + 19) (b' + 19) 0 0 n)) := fun h f => acp_D X h hb hb' (by omega) h1 (by rw [l 19 (by omega) (by omega)]; exact h2) none f
  have a20 : ∀ (h : Mem) (f : Mem → Option Rs), oK (acp X S0 (ov h) (b' + 20) 0 (b + 20) 0 n) none f = f (ov (cp h (b + 20) (b' + 20) 0 0 n)) := fun h f => acp_D X h hb hb' (by omega) h1 (by rw [l 20 (by omega) (by omega)]; exact h2) none f
  rw [e_116]
  simp (disch := omega) only [↓G_yrs hb, ↓G_yrs hb', ↓P_yrs hb, u, ↓oK_some, rd_wr_ne, hst, rd_wr_eq, rd_cp_ne, ↓a14, ↓a15, ↓a16, ↓a17, ↓a18, ↓a19, ↓a20]
  refine Ok_some ⟨?_, ?_, fun k i k0 k1 i0 i1 => ?_, fun c i c0 i0 h => ?_⟩
  · simp (disch := omega) only [rd_cp_ne, rd_wr_ix, rd_wr_eq]
  · simp (disch := omega) only [rd_cp_ne, rd_wr_eq]
  · have hk : k = 14 ∨ k = 15 ∨ k = 16 ∨ k = 17 ∨ k = 18 ∨ k = 19 ∨ k = 20 := by omega
    rcases hk with rfl | rfl | rfl | rfl | rfl | rfl | rfl <;> simp (disch := omega) only [rd_cp_ne, rd_cp_in, rd_wr_ne]
  · simp (disch := omega) only [rd_cp_ne, rd_wr_ne]
theorem c_19 (hb : isD b) (hb' : isD b') (hn : b ≠ b') (h0 : rd g (b' + 13) 0 = 0 ∨ rd g (b' + 13) 0 = 1) (h1 : 0 ≤ rd g (b' + 13) 1) (h2 : rd g (b' + 13) 1 ≤ 30) : Ok (fun _ g' => TK g b' g' b ∧ FB2 b g g') (MI X (d + 1) 19 [.inr (.inr b), .inr (.inr b')] S0 (ov g)) := by
  have r1 := isD_rng hb
  have r2 := isD_rng hb'
  have hs : b + 20 < b' ∨ b' + 20 < b := by unfold isD at hb hb'; omega
  have ac : ∀ (k n : Int), ((1 ≤ k ∧ k ≤ 12) ∨ (14 ≤ k ∧ k ≤ 20)) → 0 ≤ n → n ≤ (lnD k : Int) → ∀ (h : Mem) (f : Mem → Option Rs), oK (acp X S0 (ov h) (b' + k) 0 (b + k) 0 n) none f = f (ov (cp h (b + k) (b' + k) 0 0 n)) := fun k n a c e h f => acp_D X h hb hb' a c e none f
  have a1 := ac 1 4 (by omega) (by omega) (by decide)
  have a2 := ac 2 8 (by omega) (by omega) (by decide)
  have a3 := ac 3 8 (by omega) (by omega) (by decide)
  have a4 := ac 4 8 (by omega) (by omega) (by decide)
  have a5 := ac 5 8 (by omega) (by omega) (by decide)
  have a6 := ac 6 6 (by omega) (by omega) (by decide)
  have a7 := ac 7 6 (by omega) (by omega) (by decide)
  have a8 := ac 8 6 (by omega) (by omega) (by decide)
  have a9 := ac 9 6 (by omega) (by omega) (by decide)
  have a10 := ac 10 36 (by omega) (by omega) (by decide)
  have a11 := ac 11 8 (by omega) (by omega) (by decide)
  have a12 := ac 12 6 (by omega) (by omega) (by decide)
  clear ac
  rw [e_19]
  simp (disch := omega) only [↓G_daw hb, ↓G_daw hb', ↓P_daw hb, rd_wr_ne, rd_cp_ne, ↓a1, ↓a2, ↓a3, ↓a4, ↓a5, ↓a6, ↓a7, ↓a8, ↓a9, ↓a10, ↓a11, ↓a12, ↓K_yrs hb]
  generalize hG : wr (wr (wr (wr (wr (cp (cp (cp (cp (cp (cp (cp (cp (cp (cp (cp (cp (wr (wr g b 0 (rd g b' 0)) b 1 (rd g b' 1)) (b + 1) (b' + 1) 0 0 4) (b + 2) (b' + 2) 0 0 8) (b + 3) (b' + 3) 0 0 8) (b + 4) (b' + 4) 0 0 8) (b + 5) (b' + 5) 0 0 8) (b + 6) (b' + 6) 0 0 6) (b + 7) (b' + 7) 0 0 6) (b + 8) (b' + 8) 0 0 6) (b + 9) (b' + 9) 0 0 6) (b + 10) (b' + 10) 0 0 36) (b + 11) (b' + 11) 0 0 8) (b + 12) (b' + 12) 0 0 6) b 14 (rd g b' 14)) b 15 (rd g b' 15)) b 16 (rd g b' 16)) b 17 (rd g b' 17)) b 18 (rd g b' 18) = G
  have fr : ∀ c i, 0 ≤ c → 0 ≤ i → (c < b ∨ b + 12 < c) → rd G c i = rd g c i := fun c i x y z => by
    subst hG
    simp (disch := omega) only [rd_cp_ne, rd_wr_ne]
  have q0 : rd G b 0 = rd g b' 0 ∧ rd G b 1 = rd g b' 1 ∧ rd G b 14 = rd g b' 14 ∧ rd G b 15 = rd g b' 15 ∧ rd G b 16 = rd g b' 16 ∧ rd G b 17 = rd g b' 17 ∧ rd G b 18 = rd g b' 18 := by
    subst hG
    simp (disch := omega) only [rd_cp_ne, rd_wr_ix, rd_wr_eq, and_self]
  have qk : ∀ k i : Int, 1 ≤ k → k ≤ 12 → 0 ≤ i → i < (lnD k : Int) → rd G (b + k) i = rd g (b' + k) i := fun k i x y z w => by
    have hk : k = 1 ∨ k = 2 ∨ k = 3 ∨ k = 4 ∨ k = 5 ∨ k = 6 ∨ k = 7 ∨ k = 8 ∨ k = 9 ∨ k = 10 ∨ k = 11 ∨ k = 12 := by omega
    subst hG
    rcases hk with rfl | rfl | rfl | rfl | rfl | rfl | rfl | rfl | rfl | rfl | rfl | rfl
    · have w : i < 4 := w
      simp (disch := omega) only [rd_cp_ne, rd_cp_in, rd_wr_ne]
    · have w : i < 8 := w
      simp (disch := omega) only [rd_cp_ne, rd_cp_in, rd_wr_ne]
    · have w : i < 8 := w
      simp (disch := omega) only [rd_cp_ne, rd_cp_in, rd_wr_ne]
    · have w : i < 8 := w
      simp (disch := omega) only [rd_cp_ne, rd_cp_in, rd_wr_ne]
    · have w : i < 8 := w
      simp (disch := omega) only [rd_cp_ne, rd_cp_in, rd_wr_ne]
    · have w : i < 6 := w
      simp (disch := omega) only [rd_cp_ne, rd_cp_in, rd_wr_ne]
    · have w : i < 6 := w
      simp (disch := omega) only [rd_cp_ne, rd_cp_in, rd_wr_ne]
    · have w : i < 6 := w
      simp (disch := omega) only [rd_cp_ne, rd_cp_in, rd_wr_ne]
    · have w : i < 6 := w
      simp (disch := omega) only [rd_cp_ne, rd_cp_in, rd_wr_ne]
    · have w : i < 36 := w
      simp (disch := omega) only [rd_cp_ne, rd_cp_in, rd_wr_ne]
    · have w : i < 8 := w
      simp (disch := omega) only [rd_cp_ne, rd_cp_in, rd_wr_ne]
    · have w : i < 6 := w
      simp (disch := omega) only [rd_cp_ne, rd_cp_in, rd_wr_ne]
  clear hG
  have e0 : ∀ k i, 13 ≤ k → 0 ≤ i → rd G (b' + k) i = rd g (b' + k) i → True := fun _ _ _ _ _ => trivial
  have eb : ∀ k i, 13 ≤ k → k ≤ 20 → 0 ≤ i → rd G (b' + k) i = rd g (b' + k) i := fun k i x y z => fr _ _ (by omega) z (by omega)
  have c13 := eb 13 0 (by omega) (by omega) (by omega)
  have c131 := eb 13 1 (by omega) (by omega) (by omega)
  refine Ok_bind (c_116 (g := G) hb hb' hn (by rw [c13]; exact h0) (by rw [c131]; exact h1) (by rw [c131]; exact h2)) ?_
  rintro v g2 ⟨p1, p2, p3, p4⟩
  refine Ok_some ⟨⟨?_, fun k i x y z w => ?_, p1.trans c13, p2.trans c131, fun k i x y z w => ?_⟩, fun c i x y z => ?_⟩
  · rw [p4 _ _ (by omega) (by omega) (by omega), p4 _ _ (by omega) (by omega) (by omega), p4 _ _ (by omega) (by omega) (by omega), p4 _ _ (by omega) (by omega) (by omega), p4 _ _ (by omega) (by omega) (by omega), p4 _ _ (by omega) (by omega) (by omega), p4 _ _ (by omega) (by omega) (by omega)]
    exact q0
  · rw [p4 _ _ (by omega) z (by omega)]; exact qk k i x y z w
  · rw [p3 k i x y z (by rw [c131]; exact w)]; exact eb k i (by omega) y z
  · rw [p4 _ _ x y (by omega)]; exact fr c i x y (by omega)
end
