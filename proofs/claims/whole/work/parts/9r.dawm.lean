/-! a DAWN told, the model: THING, MAN -/
def DMs (g : Mem) (s nm : Int → Int) : Prop := (∀ i, 0 ≤ i → i < 104 → rd g 144 (1888 + i) = s i) ∧ (∀ i, 0 ≤ i → i < s 0 → rd g 145 (56 + i) = nm i) ∧ (∀ i, 0 ≤ i → i < s 1 → rd g 145 (64 + i) = nm (8 + i))
def Zr (s : Int → Int) : Prop := ∀ j, 12 + 4 * s 0 ≤ j → j < 44 → s j = 0
/-- nothing but the NEW slot, TOKEN, FAULT is other -/
def Fdm (g g' : Mem) : Prop := ∀ c i, 0 ≤ c → 0 ≤ i → (c ≠ 143 ∨ i < 12 ∨ (18 < i ∧ i ≠ 20) ∨ i = 16) → (c ≠ 144 ∨ i < 1888) → (c ≠ 145 ∨ i < 56) → rd g' c i = rd g c i
theorem Fdm_tr {g g1 g2 : Mem} (h1 : Fdm g g1) (h2 : Fdm g1 g2) : Fdm g g2 := fun c i x y z w v => (h2 c i x y z w v).trans (h1 c i x y z w v)
theorem Fdm_FN {g g1 : Mem} (h : FNt g g1) : Fdm g g1 := fun c i x y z w v => h c i x y (by omega)
theorem Fdm_FM {g g1 : Mem} (h : FMt g g1) : Fdm g g1 := fun c i x y z w v => h c i x y (by omega)
theorem Fdm_wr (g : Mem) {c0 k : Int} (x : Int) (k0 : 0 ≤ k) (h : (c0 = 144 ∧ 1888 ≤ k) ∨ (c0 = 145 ∧ 56 ≤ k) ∨ (c0 = 143 ∧ k = 20)) : Fdm g (wr g c0 k x) := fun c i y z w v u => by
  by_cases e : c = c0
  · subst e; exact rd_wr_ix _ _ k0 z (by omega)
  · exact rd_wr_ne _ _ _ _ (by omega) y e
theorem ff_last (p : Int → Bool) : ∀ (k : Nat) (m : Int), p (m + k) = false → ff p (k + 1) m = ff p k m
  | 0, m, h => by
    show (bif p m then m else -1) = -1
    rw [show m = m + ((0 : Nat) : Int) by omega, h]; rfl
  | k + 1, m, h => by
    show (bif p m then m else ff p (k + 1) (m + 1)) = (bif p m then m else ff p k (m + 1))
    rw [ff_last p k (m + 1) (by rw [show m + 1 + (k : Int) = m + ((k + 1 : Nat) : Int) by omega]; exact h)]
section
variable {X : Xs} {d : Nat} {g : Mem} {t : Int → Int} {n q : Int} {s nm : Int → Int} {σ : Type} {P : Rr σ → Int → Mem → Prop} {f : Int → Sh → Mem → Option Rs}
theorem DMs_FM {g' : Mem} (h : DMs g s nm) (f : FMt g g') : DMs g' s nm := ⟨fun i a b => (f _ _ (by omega) (by omega) (by omega)).trans (h.1 i a b), fun i a b => (f _ _ (by omega) (by omega) (by omega)).trans (h.2.1 i a b), fun i a b => (f _ _ (by omega) (by omega) (by omega)).trans (h.2.2 i a b)⟩
theorem m_fn1 (hr : txR t n) (mg : Mg t n g q) (hn : nmP t n q) (dn : ∀ i, 0 ≤ i → i < s 0 → rd g 145 (56 + i) = nm i) (h0 : 0 ≤ s 0) (h8 : s 0 ≤ 8) : MI X (d + 2) 228 [.inr (.inr 143), .inl 56, .inl (s 0)] S0 (ov g) = some (fn1 s nm (vaP t n q), S0, ov g) := by
  rw [m_228 hr mg.1 mg.2.1 hn (by omega) h0 h8 (by omega)]
  congr 2
  exact ff_cg _ _ (fun i a b => by rw [dn i a (by omega)])
theorem m_fn2 (hr : txR t n) (mg : Mg t n g q) (hn : nmP t n q) (dn : ∀ i, 0 ≤ i → i < s 1 → rd g 145 (64 + i) = nm (8 + i)) (h0 : 0 ≤ s 1) (h8 : s 1 ≤ 6) : MI X (d + 2) 228 [.inr (.inr 143), .inl 64, .inl (s 1)] S0 (ov g) = some (fn2 s nm (vaP t n q), S0, ov g) := by
  rw [m_228 hr mg.1 mg.2.1 hn (by omega) h0 (by omega) (by omega)]
  congr 2
  exact ff_cg _ _ (fun i a b => by rw [dn i a (by omega)])
theorem k_234 (hr : txR t n) (mg : Mg t n g q) (dm : DMs g s nm) (pu : PU s) {v1 v2 v3 : Int} (h : (v1 = 0 ∧ v2 = 8 ∧ v3 = 0) ∨ (v1 = 1 ∧ v2 = 6 ∧ v3 = 8)) {K : Rr σ} (hs : s v1 < v2 → ∀ g', FMt (wr g 145 (56 + v3 + s v1) (vaP t n (nxP t n q))) g' → Mg t n g' (nx2 t n q) → Ok (P K) (f 1 S0 (ov g'))) (hf : ∀ c p g', FNt g g' → Mf g' c p → Ok (P (.inl (c, p))) (f 0 S0 (ov g'))) : Ok (P (if s v1 < v2 then pNew t n (nxP t n q) s nm K else pBad t n q 6)) (oC (MI X (d + 7) 234 [.inr (.inr 143), .inl v1, .inl v2, .inl v3] S0 (ov g)) f) := by
  obtain ⟨i0, i1, i2, i3, -⟩ := id pu.1
  have sv : 0 ≤ s v1 ∧ s v1 ≤ v2 := by
    rcases h with ⟨rfl, rfl, -⟩ | ⟨rfl, rfl, -⟩ <;> omega
  have e1 := dm.1 v1 (by omega) (by omega)
  rw [e_234, w32_id (x := 1888 + v1) (by omega) (by omega)]
  simp (disch := omega) only [↓G_mod, ↓al_144, e1, ↓K_mod]
  by_cases z : s v1 = v2
  · rw [if_pos z, if_neg (by omega), oC_as]
    exact k_221 mg 6 (fun g1 fn mf => hf _ _ g1 fn mf)
  rw [if_neg z, if_pos (by omega), oC_as]
  refine k_218 hr mg (fun v g1 fm1 mg1 => ?_)
  have dm1 := DMs_FM dm fm1
  have a0 := dm1.1 0 (by omega) (by omega)
  have a1 := dm1.1 1 (by omega) (by omega)
  have av := dm1.1 v1 (by omega) (by omega)
  unfold pNew pName
  simp only [↓K_mod, ↓oC_of (m_226 hr mg1.1 mg1.2.1), ↓if_b2i]
  by_cases hn : nmP t n (nxP t n q)
  case neg =>
    rw [if_neg hn, if_neg hn, oC_as]
    exact k_221 mg1 2 (fun g2 fn mf => hf _ _ g2 (FNt_tr (FNt_FMt fm1) fn) mf)
  rw [if_pos hn, if_pos hn]
  have b0 : rd g1 144 1888 = s 0 := a0
  have b1 : rd g1 144 1889 = s 1 := a1
  simp (disch := omega) only [↓G_mod, ↓al_144, b0, b1, ↓oC_of (m_fn1 hr mg1 hn dm1.2.1 i0 i1), ↓oC_of (m_fn2 hr mg1 hn dm1.2.2 i2 i3)]
  have bad : Ok (P (pBad t n (nxP t n q) 3)) (oC (oC (MI X (d + 6) 221 [.inr (.inr 143), .inl 3] S0 (ov g1)) fun r18 S18 m18 => if r18 = 0 ∨ r18 = 1 then some (r18, S18, m18) else none) f) := by
    rw [oC_as]
    exact k_221 mg1 3 (fun g2 fn mf => hf _ _ g2 (FNt_tr (FNt_FMt fm1) fn) mf)
  by_cases z1 : fn1 s nm (vaP t n (nxP t n q)) = -1
  case neg =>
    rw [if_neg z1, if_neg (fun y => z1 y.1)]
    exact bad
  rw [if_pos z1]
  by_cases z2 : fn2 s nm (vaP t n (nxP t n q)) = -1
  case neg =>
    rw [if_neg z2, if_neg (fun y => z2 y.2)]
    exact bad
  rw [if_pos z2, if_pos ⟨z1, z2⟩]
  have l8 : enP t n (nxP t n q) - nxP t n q ≤ 8 := by
    have := va_0 hn.1
    by_cases z : enP t n (nxP t n q) - nxP t n q ≤ 8
    · exact z
    · exact absurd (this.2 z) hn.2.1
  have e5 : w32 (w32 (56 + v3) + s v1) = 56 + v3 + s v1 := by
    rw [w32_id (x := 56 + v3) (by omega) (by omega), w32_id (x := 56 + v3 + s v1) (by omega) (by omega)]
  simp (disch := omega) only [↓al_144, av, ↓oC_of (m_227 hr mg1.1 hn.1 mg1.2.1 l8), e5, ↓as_145, ↓K_mod, ↓G_mod]
  rw [oC_as]
  refine k_218 hr (Mg_wr mg1 (by omega) (by omega) (by omega) _ _) (fun v g2 fm2 mg2 => ?_)
  exact hs (by omega) g2 (FMt_tr (FMt_2 fm1 145 _ _ (by omega) (by omega)) fm2) mg2
/-- a THING laid in the slot -/
def thM (g : Mem) (t0 v r w k : Int) : Mem := wr (wr (wr (wr (wr g 145 (56 + t0) v) 144 (1888 + (12 + 4 * t0)) r) 144 (1888 + (12 + 4 * t0) + 1) w) 144 (1888 + (12 + 4 * t0) + 2) k) 144 1888 (t0 + 1)
theorem DMs_th (dm : DMs g s nm) (zr : Zr s) (h0 : 0 ≤ s 0) (h8 : s 0 < 8) (v r w k : Int) : DMs (thM g (s 0) v r w k) (fgS s r w k) (us nm (s 0) v) ∧ Zr (fgS s r w k) ∧ Fdm g (thM g (s 0) v r w k) := by
  obtain ⟨f0, -, -, -, -, f5⟩ := fg_all r w k h0
  refine ⟨⟨fun i i0 i1 => ?_, fun i i0 i1 => ?_, fun i i0 i1 => ?_⟩, fun j a b => ?_, ?_⟩
  · have z := zr i
    have e := dm.1 i i0 i1
    unfold thM fgS us
    rw [rd_wr_if _ _ _ (by omega) (by omega), rd_wr_if _ _ _ (by omega) (by omega), rd_wr_if _ _ _ (by omega) (by omega), rd_wr_if _ _ _ (by omega) (by omega), rd_wr_ne _ _ _ _ (by omega) (by omega) (by omega), e]
    (repeat' split) <;> first | rfl | omega
  · rw [f0] at i1
    unfold thM us
    rw [rd_wr_ne _ _ _ _ (by omega) (by omega) (by omega), rd_wr_ne _ _ _ _ (by omega) (by omega) (by omega), rd_wr_ne _ _ _ _ (by omega) (by omega) (by omega), rd_wr_ne _ _ _ _ (by omega) (by omega) (by omega), rd_wr_if _ _ _ (by omega) (by omega)]
    by_cases z : i = s 0
    · rw [if_pos (by omega), if_pos z]
    · rw [if_neg (by omega), if_neg z]; exact dm.2.1 i i0 (by omega)
  · rw [f5 1 (by omega) (by omega)] at i1
    rw [us_ne _ _ (by omega)]
    unfold thM
    rw [rd_wr_ne _ _ _ _ (by omega) (by omega) (by omega), rd_wr_ne _ _ _ _ (by omega) (by omega) (by omega), rd_wr_ne _ _ _ _ (by omega) (by omega) (by omega), rd_wr_ne _ _ _ _ (by omega) (by omega) (by omega), rd_wr_ix _ _ (by omega) (by omega) (by omega)]
    exact dm.2.2 i i0 i1
  · rw [f0] at a
    rw [f5 j (by omega) (by omega)]
    exact zr j (by omega) b
  · unfold thM
    exact Fdm_tr (Fdm_tr (Fdm_tr (Fdm_tr (Fdm_wr _ _ (by omega) (by omega)) (Fdm_wr _ _ (by omega) (by omega))) (Fdm_wr _ _ (by omega) (by omega))) (Fdm_wr _ _ (by omega) (by omega))) (Fdm_wr _ _ (by omega) (by omega))
theorem FNt_M {M g1 g2 : Mem} (h : FMt M g1) (fn : FNt g1 g2) : FNt M g2 := FNt_tr (FNt_FMt h) fn
theorem k_236 (hr : txR t n) (mg : Mg t n g q) (dm : DMs g s nm) (pu : PU s) {J : Int → Int → Int → Rr σ} (hs : ∀ r w k g', s 0 < 8 → fgR r w k → FMt (thM g (s 0) (vaP t n (nxP t n q)) r w k) g' → Mg t n g' (nx2 t n (nx2 t n (nx2 t n (nx2 t n q)))) → Ok (P (J r w k)) (f 1 S0 (ov g'))) (hf : ∀ c p g', Fdm g g' → Mf g' c p → Ok (P (.inl (c, p))) (f 0 S0 (ov g'))) : Ok (P (if s 0 < 8 then pNew t n (nxP t n q) s nm (pAm t n (nx2 t n q) 5 1 6 fun r => pAm t n (nx2 t n (nx2 t n q)) 6 0 9 fun w => pAm t n (nx2 t n (nx2 t n (nx2 t n q))) 7 1 30 fun k => J r w k) else pBad t n q 6)) (oC (MI X (d + 8) 236 [.inr (.inr 143)] S0 (ov g)) f) := by
  obtain ⟨i0, i1, i2, i3, -⟩ := id pu.1
  have b0 : rd g 144 1888 = s 0 := dm.1 0 (by omega) (by omega)
  rw [e_236]
  rw [(G_mod g _ _).1, al_144 X g (i := 1888) (by omega) (by omega), b0, oC_of (m_231 (s 0) (by omega) (by omega) _ _), K_mod, oC_as]
  refine k_234 hr mg dm pu (Or.inl ⟨rfl, rfl, rfl⟩) (fun l8 g1 fm1 mg1 => ?_) (fun c p g1 fn mf => hf c p g1 (Fdm_FN fn) mf)
  rw [show (56 + 0 + s 0 : Int) = 56 + s 0 by omega] at fm1
  have fd1 : Fdm g g1 := Fdm_tr (Fdm_wr g _ (by omega) (by omega)) (Fdm_FM fm1)
  have ha : w32 (1888 + (12 + 4 * s 0)) = 1888 + (12 + 4 * s 0) := w32_id (by omega) (by omega)
  have ha1 : w32 (1888 + (12 + 4 * s 0) + 1) = 1888 + (12 + 4 * s 0) + 1 := w32_id (by omega) (by omega)
  have ha2 : w32 (1888 + (12 + 4 * s 0) + 2) = 1888 + (12 + 4 * s 0) + 2 := w32_id (by omega) (by omega)
  simp only [Int.reduceEq, ↓reduceIte, ↓K_mod, ha, ha1, ha2]
  have badN : ∀ {G g1 : Mem}, Fdm g g1 → ∀ c p g2, FNt g1 g2 → Mf g2 c p → Ok (P (.inl (c, p))) (f 0 S0 (ov g2)) := fun {G g1} fd c p g2 fn mf => hf c p g2 (Fdm_tr fd (Fdm_FN fn)) mf
  unfold pAm
  rw [oC_as]
  refine k_224 hr mg1 6 5 rfl (by omega) (by omega) (fun g2 fm2 mg2 => ?_) (fun g2 fn mf => badN (G := g) fd1 _ _ g2 fn mf)
  simp only [Int.reduceEq, ↓reduceIte, ↓K_mod]
  rw [oC_as]
  have fd2 := Fdm_tr fd1 (Fdm_FM fm2)
  refine k_225 hr mg2 _ 1 6 (by omega) (by omega) (fun r0 r1 g3 fm3 mg3 => ?_) (fun c g3 fn mf => badN (G := g) fd2 _ _ g3 fn mf)
  generalize vaP t n (nxP t n (nx2 t n q)) = r at r0 r1 fm3 ⊢
  have c3 := FMt_tr (FMt_2 (FMt_tr fm1 fm2) 144 (1888 + (12 + 4 * s 0)) r (by omega) (by omega)) fm3
  have fd3 : Fdm g g3 := Fdm_tr (Fdm_tr fd2 (Fdm_wr _ _ (by omega) (by omega))) (Fdm_FM fm3)
  simp only [Int.reduceEq, ↓reduceIte, ↓K_mod]
  rw [oC_as]
  refine k_224 hr mg3 7 6 rfl (by omega) (by omega) (fun g4 fm4 mg4 => ?_) (fun g4 fn mf => badN (G := g) fd3 _ _ g4 fn mf)
  simp only [Int.reduceEq, ↓reduceIte, ↓K_mod]
  rw [oC_as]
  have fd4 := Fdm_tr fd3 (Fdm_FM fm4)
  refine k_225 hr mg4 _ 0 9 (by omega) (by omega) (fun w0 w1 g5 fm5 mg5 => ?_) (fun c g5 fn mf => badN (G := g) fd4 _ _ g5 fn mf)
  generalize vaP t n (nxP t n (nx2 t n (nx2 t n q))) = w at w0 w1 fm5 ⊢
  have c5 := FMt_tr (FMt_2 (FMt_tr c3 fm4) 144 (1888 + (12 + 4 * s 0) + 1) w (by omega) (by omega)) fm5
  have fd5 : Fdm g g5 := Fdm_tr (Fdm_tr fd4 (Fdm_wr _ _ (by omega) (by omega))) (Fdm_FM fm5)
  simp only [Int.reduceEq, ↓reduceIte, ↓K_mod]
  rw [oC_as]
  refine k_224 hr mg5 8 7 rfl (by omega) (by omega) (fun g6 fm6 mg6 => ?_) (fun g6 fn mf => badN (G := g) fd5 _ _ g6 fn mf)
  simp only [Int.reduceEq, ↓reduceIte, ↓K_mod]
  rw [oC_as]
  have fd6 := Fdm_tr fd5 (Fdm_FM fm6)
  refine k_225 hr mg6 _ 1 30 (by omega) (by omega) (fun k0 k1 g7 fm7 mg7 => ?_) (fun c g7 fn mf => badN (G := g) fd6 _ _ g7 fn mf)
  generalize vaP t n (nxP t n (nx2 t n (nx2 t n (nx2 t n q)))) = k at k0 k1 fm7 ⊢
  have c7 := FMt_tr (FMt_2 (FMt_tr c5 fm6) 144 (1888 + (12 + 4 * s 0) + 2) k (by omega) (by omega)) fm7
  have e18 : rd g7 144 1888 = s 0 := by
    rw [c7 _ _ (by omega) (by omega) (by omega), rd_wr_ix _ _ (by omega) (by omega) (by omega), rd_wr_ix _ _ (by omega) (by omega) (by omega), rd_wr_ix _ _ (by omega) (by omega) (by omega), rd_wr_ne _ _ _ _ (by omega) (by omega) (by omega)]
    exact b0
  simp (disch := omega) only [Int.reduceEq, ↓reduceIte, ↓G_mod, ↓al_144, e18, ↓as_144, w32_id]
  exact hs r w k _ l8 ⟨⟨r0, r1⟩, ⟨w0, w1⟩, k0, k1⟩ (FMt_2 c7 144 1888 (s 0 + 1) (by omega) (by omega)) (Mg_wr mg7 (by omega) (by omega) (by omega) _ _)
end
