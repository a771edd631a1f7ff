/-! a DAWN told, the model: a part -/
theorem bt_1 : ∀ a : Fin 64, ∀ w : Fin 6, 0 ≤ am_or (a.val : Int) (am_shl 1 (w.val : Int)) ∧ am_or (a.val : Int) (am_shl 1 (w.val : Int)) < 64 := by decide
theorem bt_2 : ∀ a : Fin 64, ∀ w : Fin 6, ∀ v : Fin 4, am_and (am_shr (am_or (a.val : Int) (am_shl 1 (w.val : Int))) (v.val : Int)) 1 = if v.val = w.val then 1 else am_and (am_shr (a.val : Int) (v.val : Int)) 1 := by decide
def TB (tm tc : Int) : Prop := 0 ≤ tm ∧ tm < 64 ∧ 0 ≤ tc ∧ tc < 64 ∧ ∀ w, 0 ≤ w → w < 4 → am_and (am_shr tm w) 1 = am_and (am_shr tc w) 1
theorem bt_1' {a w : Int} (a0 : 0 ≤ a) (a1 : a < 64) (w0 : 0 ≤ w) (w1 : w < 6) : 0 ≤ am_or a (am_shl 1 w) ∧ am_or a (am_shl 1 w) < 64 := by
  have h := bt_1 ⟨a.toNat, by omega⟩ ⟨w.toNat, by omega⟩
  simp only [show ((a.toNat : Nat) : Int) = a by omega, show ((w.toNat : Nat) : Int) = w by omega] at h
  exact h
theorem bt_2' {a w v : Int} (a0 : 0 ≤ a) (a1 : a < 64) (w0 : 0 ≤ w) (w1 : w < 6) (v0 : 0 ≤ v) (v1 : v < 4) : am_and (am_shr (am_or a (am_shl 1 w)) v) 1 = if v = w then 1 else am_and (am_shr a v) 1 := by
  have h := bt_2 ⟨a.toNat, by omega⟩ ⟨w.toNat, by omega⟩ ⟨v.toNat, by omega⟩
  simp only [show ((a.toNat : Nat) : Int) = a by omega, show ((w.toNat : Nat) : Int) = w by omega, show ((v.toNat : Nat) : Int) = v by omega] at h
  rw [h]
  by_cases z : v = w
  · rw [if_pos z, if_pos (by omega)]
  · rw [if_neg z, if_neg (by omega)]
theorem TB_rule {tm tc w : Int} (h : TB tm tc) (w0 : 0 ≤ w) (w1 : w < 4) : TB (am_or tm (am_shl 1 w)) (am_or tc (am_shl 1 w)) := by
  obtain ⟨a, b, c, e, k⟩ := h
  have x := bt_1' a b w0 (by omega)
  have y := bt_1' c e w0 (by omega)
  refine ⟨x.1, x.2, y.1, y.2, fun v v0 v1 => ?_⟩
  rw [bt_2' a b w0 (by omega) v0 v1, bt_2' c e w0 (by omega) v0 v1, k v v0 v1]
theorem TB_big {tm tc w : Int} (h : TB tm tc) (w0 : 4 ≤ w) (w1 : w < 6) : TB (am_or tm (am_shl 1 w)) tc := by
  obtain ⟨a, b, c, e, k⟩ := h
  have x := bt_1' a b (w := w) (by omega) w1
  refine ⟨x.1, x.2, c, e, fun v v0 v1 => ?_⟩
  rw [bt_2' a b (by omega) w1 v0 v1, if_neg (by omega), k v v0 v1]
section
variable {σ : Type} (t : Int → Int) (n : Int)
def pPart (q : Int) (s nm : Int → Int) (told : Int) (K : Int → (Int → Int) → (Int → Int) → Int → Rr σ) : Rr σ :=
  if 0 ≤ wdP t n q ∧ wdP t n q < 4 then pRule t n q (wdP t n q) s told fun q' s' told' => K q' s' nm told'
  else if wdP t n q = 4 then pThing t n q s nm fun q' s' nm' => K q' s' nm' told
  else if wdP t n q = 8 then pMan t n q s nm fun q' s' nm' => K q' s' nm' told
  else pBad t n q 2
end
/-- how a part of a DAWN ends well, the model -/
abbrev gdQ (t : Int → Int) (n : Int) (g : Mem) (s nm : Int → Int) (told q0 q : Int) (g' : Mem) : Prop := Mg t n g' q ∧ DMs g' s nm ∧ Zr s ∧ PU s ∧ TB (rd g' 143 20) told ∧ Fdm g g' ∧ q0 < q ∧ q ≤ n
section
variable {X : Xs} {d : Nat} {g : Mem} {t : Int → Int} {n q : Int} {s nm : Int → Int} {told : Int} {σ : Type} {P : Rr σ → Int → Mem → Prop} {f : Int → Sh → Mem → Option Rs}
theorem k_238 (hr : txR t n) (mg : Mg t n g q) (dm : DMs g s nm) (pu : PU s) {J1 : Int → Int → Rr σ} {J2 : Int → Int → Int → Rr σ} (hs1 : ∀ p l g', s 1 < 6 → 0 ≤ p → p ≤ 9 → 1 ≤ l → l ≤ 60 → FMt (wr (maM g (s 1) (vaP t n (nxP t n q)) p l) 144 1889 (s 1 + 1)) g' → Mg t n g' (nx2 t n (nx2 t n (nx2 t n q))) → Ok (P (J1 p l)) (f 1 S0 (ov g'))) (hs2 : ∀ p l h g', s 1 < 6 → 0 ≤ p → p ≤ 9 → 1 ≤ l → l ≤ 60 → 0 ≤ h → h < s 0 → hoN (mnS s p l) h = -1 → FMt (wr (wr (maM g (s 1) (vaP t n (nxP t n q)) p l) 144 (1888 + (44 + 10 * s 1) + 3) h) 144 1889 (s 1 + 1)) g' → Mg t n g' (nx2 t n (nx2 t n (nx2 t n (nx2 t n q)))) → Ok (P (J2 p l h)) (f 1 S0 (ov g'))) (hf : ∀ c p g', Fdm g g' → Mf g' c p → Ok (P (.inl (c, p))) (f 0 S0 (ov g'))) : Ok (P (if s 1 < 6 then pNew t n (nxP t n q) s nm (pAm t n (nx2 t n q) 9 0 9 fun p => pAm t n (nx2 t n (nx2 t n q)) 10 1 60 fun l => if wdP t n (nx2 t n (nx2 t n (nx2 t n q))) = 11 then pHeld t n (nxP t n (nx2 t n (nx2 t n (nx2 t n q)))) (mnS s p l) (us nm (8 + s 1) (vaP t n (nxP t n q))) fun h => J2 p l h else J1 p l) else pBad t n q 6)) (oC (MI X (d + 9) 238 [.inr (.inr 143)] S0 (ov g)) f) := by
  obtain ⟨i0, i1, i2, i3, -⟩ := id pu.1
  have b1 : rd g 144 1889 = s 1 := dm.1 1 (by omega) (by omega)
  rw [e_238, (G_mod g _ _).1, al_144 X g (i := 1889) (by omega) (by omega), b1, oC_of (m_232 (s 1) (by omega) (by omega) _ _), K_mod, oC_as]
  refine k_234 hr mg dm pu (Or.inr ⟨rfl, rfl, rfl⟩) (fun l6 g1 fm1 mg1 => ?_) (fun c p g1 fn mf => hf c p g1 (Fdm_FN fn) mf)
  rw [show (56 + 8 + s 1 : Int) = 64 + s 1 by omega] at fm1
  have fd1 : Fdm g g1 := Fdm_tr (Fdm_wr g _ (by omega) (by omega)) (Fdm_FM fm1)
  have ha : w32 (1888 + (44 + 10 * s 1)) = 1888 + (44 + 10 * s 1) := w32_id (by omega) (by omega)
  have ha1 : w32 (1888 + (44 + 10 * s 1) + 1) = 1888 + (44 + 10 * s 1) + 1 := w32_id (by omega) (by omega)
  have ha2 : w32 (1888 + (44 + 10 * s 1) + 2) = 1888 + (44 + 10 * s 1) + 2 := w32_id (by omega) (by omega)
  have ha3 : w32 (1888 + (44 + 10 * s 1) + 3) = 1888 + (44 + 10 * s 1) + 3 := w32_id (by omega) (by omega)
  simp only [Int.reduceEq, ↓reduceIte, ↓K_mod, ha, ha1, ha2, ha3]
  have badN : ∀ {G g1 : Mem}, Fdm g g1 → ∀ c p g2, FNt g1 g2 → Mf g2 c p → Ok (P (.inl (c, p))) (f 0 S0 (ov g2)) := fun {G g1} fd c p g2 fn mf => hf c p g2 (Fdm_tr fd (Fdm_FN fn)) mf
  unfold pAm
  rw [oC_as]
  refine k_224 hr mg1 9 9 rfl (by omega) (by omega) (fun g2 fm2 mg2 => ?_) (fun g2 fn mf => badN (G := g) fd1 _ _ g2 fn mf)
  simp only [Int.reduceEq, ↓reduceIte, ↓K_mod]
  rw [oC_as]
  have fd2 := Fdm_tr fd1 (Fdm_FM fm2)
  refine k_225 hr mg2 _ 0 9 (by omega) (by omega) (fun p0 p1 g3 fm3 mg3 => ?_) (fun c g3 fn mf => badN (G := g) fd2 _ _ g3 fn mf)
  generalize vaP t n (nxP t n (nx2 t n q)) = p at p0 p1 fm3 ⊢
  have c3 := FMt_tr (FMt_2 (FMt_tr fm1 fm2) 144 (1888 + (44 + 10 * s 1)) p (by omega) (by omega)) fm3
  have fd3 : Fdm g g3 := Fdm_tr (Fdm_tr fd2 (Fdm_wr _ _ (by omega) (by omega))) (Fdm_FM fm3)
  simp only [Int.reduceEq, ↓reduceIte, ↓K_mod]
  rw [oC_as]
  refine k_224 hr mg3 10 10 rfl (by omega) (by omega) (fun g4 fm4 mg4 => ?_) (fun g4 fn mf => badN (G := g) fd3 _ _ g4 fn mf)
  simp only [Int.reduceEq, ↓reduceIte, ↓K_mod]
  rw [oC_as]
  have fd4 := Fdm_tr fd3 (Fdm_FM fm4)
  refine k_225 hr mg4 _ 1 60 (by omega) (by omega) (fun l0 l1 g5 fm5 mg5 => ?_) (fun c g5 fn mf => badN (G := g) fd4 _ _ g5 fn mf)
  generalize vaP t n (nxP t n (nx2 t n (nx2 t n q))) = l at l0 l1 fm5 ⊢
  replace mg5 : Mg t n g5 (nx2 t n (nx2 t n (nx2 t n q))) := mg5
  have c5 := FMt_tr (FMt_2 (FMt_tr c3 fm4) 144 (1888 + (44 + 10 * s 1) + 1) l (by omega) (by omega)) fm5
  have el : rd g5 144 (1888 + (44 + 10 * s 1) + 1) = l := by
    rw [c5 _ _ (by omega) (by omega) (by omega)]
    exact rd_wr_eq _ _ _ _
  have fd5 : Fdm g g5 := Fdm_tr (Fdm_tr fd4 (Fdm_wr _ _ (by omega) (by omega))) (Fdm_FM fm5)
  simp (disch := omega) only [Int.reduceEq, ↓reduceIte, ↓G_mod, ↓al_144, el, ↓as_144]
  have c6 : FMt (maM g (s 1) (vaP t n (nxP t n q)) p l) (wr (wr g5 144 (1888 + (44 + 10 * s 1) + 2) l) 144 (1888 + (44 + 10 * s 1) + 3) (-1)) := FMt_2 (FMt_2 c5 144 (1888 + (44 + 10 * s 1) + 2) l (by omega) (by omega)) 144 (1888 + (44 + 10 * s 1) + 3) (-1) (by omega) (by omega)
  have mg6 := Mg_wr (Mg_wr mg5 (c0 := 144) (by omega) (by omega) (by omega) (1888 + (44 + 10 * s 1) + 2) l) (c0 := 144) (by omega) (by omega) (by omega) (1888 + (44 + 10 * s 1) + 3) (-1)
  have fd6 : Fdm g (wr (wr g5 144 (1888 + (44 + 10 * s 1) + 2) l) 144 (1888 + (44 + 10 * s 1) + 3) (-1)) := Fdm_tr (Fdm_tr fd5 (Fdm_wr _ _ (by omega) (by omega))) (Fdm_wr _ _ (by omega) (by omega))
  generalize wr (wr g5 144 (1888 + (44 + 10 * s 1) + 2) l) 144 (1888 + (44 + 10 * s 1) + 3) (-1) = g6 at c6 mg6 fd6 ⊢
  have dx := DMx_FM (DMx_ma dm i2 l6 i1 (vaP t n (nxP t n q)) p l).1 c6
  have b6 := dx.2.1
  simp only [↓K_mod]
  rw [oC_as]
  have w1 : w32 (s 1 + 1) = s 1 + 1 := w32_id (by omega) (by omega)
  refine k_233 hr mg6 (fun g7 fm7 mg7 => ?_) ?_
  · simp only [Int.reduceEq, ↓reduceIte, ↓K_mod]
    rw [oC_as]
    have dx7 := DMx_FM dx fm7
    obtain ⟨f1, -, -, -, f5, f6⟩ := mn_all (s := s) p l i2
    have s0' := f6 0 (by omega) (by omega)
    have pu' := PU_mn pu l6 p0 p1 l0 l1
    have fd7 := Fdm_tr fd6 (Fdm_FM fm7)
    refine k_237 hr mg7 dx7 pu' f1 i2 f5 (fun h g8 h0 h1 ho fm8 mg8 => ?_) (fun c p g8 fd mf => hf c p g8 (Fdm_tr fd7 fd) mf)
    have e18 : rd g8 144 1889 = s 1 := by
      rw [fm8 _ _ (by omega) (by omega) (by omega), rd_wr_ix _ _ (by omega) (by omega) (by omega)]
      exact dx7.2.1
    simp (disch := omega) only [Int.reduceEq, ↓reduceIte, ↓G_mod, ↓al_144, e18, ↓as_144, w1]
    exact hs2 p l h _ l6 p0 p1 l0 l1 h0 (by omega) ho (FMt_2 (FMt_tr (FMt_2 (FMt_tr c6 fm7) 144 (1888 + (44 + 10 * s 1) + 3) h (by omega) (by omega)) fm8) 144 1889 (s 1 + 1) (by omega) (by omega)) (Mg_wr mg8 (by omega) (by omega) (by omega) _ _)
  · simp (disch := omega) only [↓reduceIte, ↓G_mod, ↓al_144, b6, ↓as_144, w1]
    exact hs1 p l _ l6 p0 p1 l0 l1 (FMt_2 c6 144 1889 (s 1 + 1) (by omega) (by omega)) (Mg_wr mg6 (by omega) (by omega) (by omega) _ _)
end
