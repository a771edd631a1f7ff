/-! YEARS told, the model: the rest of a STEP -/
section
variable {X : Xs} {d : Nat} {g : Mem} {t : Int → Int} {n q N a : Int} {s nm : Int → Int} {σ : Type} {P : Rr σ → Int → Mem → Prop} {f : Int → Sh → Mem → Option Rs}
theorem k_243 (hr : txR t n) (mg : Mg t n g q) (nn : NMm g s nm) (iv : Iv N s) (a0 : 1888 ≤ a) (a1 : a + 6 ≤ 3768) {w : Int} (ws : isSt w) (rt : Rat g a (row0 (pmP w))) {K : Int → (Int → Int) → Rr σ} (hs : ∀ q' r g', Rat g' a r → Frw a g g' → Mg t n g' q' → Ok (P (K q' r)) (f 1 S0 (ov g'))) (hf : ∀ c p g', Fdm g g' → Mf g' c p → Ok (P (.inl (c, p))) (f 0 S0 (ov g'))) : Ok (P (pRest t n w q s nm K)) (oC (MI X (d + 10) 243 [.inr (.inr 143), .inl (pmP w), .inl a] S0 (ov g)) f) := by
  have e1 : w32 (a + 1) = a + 1 := w32_id (by omega) (by omega)
  have e2 : w32 (a + 2) = a + 2 := w32_id (by omega) (by omega)
  have rf : Frw a g g := fun _ _ _ _ _ _ => rfl
  rw [e_243, e1, e2]
  unfold pRest
  by_cases w12 : w = 12
  · subst w12
    rw [show pmP 12 = 12 from rfl] at rt ⊢
    rw [if_pos (show (12 : Int) = 12 from rfl), if_pos (show (12 : Int) = 12 from rfl), K_mod, oC_as]
    refine k_241 (d := d + 1) hr mg nn iv (by omega) (by omega) (fun m g1 m0 m1 fm1 mg1 => ?_) (fun c p g1 fd mf => hf c p g1 fd mf)
    have f1 := Frw_tr (Frw_wr (a := a) g m (by omega) (k := a + 1) (by omega)) (Frw_FM fm1)
    have r1 := Rat_FM (Rat_wr rt (by omega) (j := 1) m (by omega) (by omega)) (by omega) fm1
    simp only [Int.reduceEq, ↓reduceIte, ↓K_mod]
    rw [oC_as]
    refine k_241 (d := d + 1) hr mg1 (NMm_rw nn a0 f1) iv (by omega) (by omega) (fun o g2 o0 o1 fm2 mg2 => ?_) (fun c p g2 fd mf => hf c p g2 (Fdm_tr (Fdm_rw f1 a0) fd) mf)
    simp only [Int.reduceEq, ↓reduceIte]
    exact hs _ _ g2 (Rat_FM (Rat_wr r1 (by omega) (j := 2) o (by omega) (by omega)) (by omega) fm2) (Frw_tr (Frw_tr f1 (Frw_wr g1 o (by omega) (k := a + 2) (by omega))) (Frw_FM fm2)) mg2
  rw [if_neg w12]
  by_cases w17 : w = 17
  · subst w17
    rw [show pmP 17 = 17 from rfl] at rt ⊢
    rw [if_pos (show (17 : Int) = 17 from rfl), if_neg (show ¬ (17 : Int) = 12 by omega), if_neg (show ¬ (17 : Int) = 13 by omega), if_neg (show ¬ (17 : Int) = 14 by omega), if_neg (show ¬ (17 : Int) = 15 by omega), if_neg (show ¬ (17 : Int) = 16 by omega), if_pos (show (17 : Int) = 17 from rfl), K_mod, oC_as]
    refine k_241 (d := d + 1) hr mg nn iv (by omega) (by omega) (fun m g1 m0 m1 fm1 mg1 => ?_) (fun c p g1 fd mf => hf c p g1 fd mf)
    have f1 := Frw_tr (Frw_wr (a := a) g m (by omega) (k := a + 1) (by omega)) (Frw_FM fm1)
    have r1 := Rat_FM (Rat_wr rt (by omega) (j := 1) m (by omega) (by omega)) (by omega) fm1
    simp only [Int.reduceEq, ↓reduceIte, ↓K_mod]
    rw [oC_as]
    refine k_225 hr mg1 (a + 2) 1 60 (by omega) (by omega) (fun x y g2 fm2 mg2 => ?_) (fun c g2 fn mf => hf _ _ g2 (Fdm_tr (Fdm_rw f1 a0) (Fdm_FN fn)) mf)
    simp only [Int.reduceEq, ↓reduceIte]
    exact hs _ _ g2 (Rat_FM (Rat_wr r1 (by omega) (j := 2) _ (by omega) (by omega)) (by omega) fm2) (Frw_tr (Frw_tr f1 (Frw_wr g1 _ (by omega) (k := a + 2) (by omega))) (Frw_FM fm2)) mg2
  rw [if_neg w17]
  by_cases w19 : w = 19
  · subst w19
    rw [show pmP 19 = 19 from rfl] at rt ⊢
    rw [if_pos (show (19 : Int) = 19 from rfl), if_neg (show ¬ (19 : Int) = 12 by omega), if_neg (show ¬ (19 : Int) = 13 by omega), if_neg (show ¬ (19 : Int) = 14 by omega), if_neg (show ¬ (19 : Int) = 15 by omega), if_neg (show ¬ (19 : Int) = 16 by omega), if_neg (show ¬ (19 : Int) = 17 by omega), if_neg (show ¬ (19 : Int) = 18 by omega), if_pos (show (19 : Int) = 19 from rfl), K_mod, oC_as]
    exact k_242 (d := d) hr mg nn iv a0 a1 rt (fun q' r g1 x y z => hs q' r g1 x y z) hf
  rw [if_neg w19]
  by_cases w23 : w = 23
  · subst w23
    rw [show pmP 23 = 20 from rfl] at rt ⊢
    rw [if_pos (show (23 : Int) = 23 from rfl), if_neg (show ¬ (20 : Int) = 12 by omega), if_neg (show ¬ (20 : Int) = 13 by omega), if_neg (show ¬ (20 : Int) = 14 by omega), if_neg (show ¬ (20 : Int) = 15 by omega), if_neg (show ¬ (20 : Int) = 16 by omega), if_neg (show ¬ (20 : Int) = 17 by omega), if_neg (show ¬ (20 : Int) = 18 by omega), if_neg (show ¬ (20 : Int) = 19 by omega), if_pos (show (20 : Int) = 20 from rfl), K_mod, oC_as]
    refine k_225 hr mg (a + 1) 1 99 (by omega) (by omega) (fun x y g2 fm2 mg2 => ?_) (fun c g2 fn mf => hf _ _ g2 (Fdm_FN fn) mf)
    exact hs _ _ g2 (Rat_FM (Rat_wr rt (by omega) (j := 1) _ (by omega) (by omega)) (by omega) fm2) (Frw_tr (Frw_wr g _ (by omega) (k := a + 1) (by omega)) (Frw_FM fm2)) mg2
  rw [if_neg w23]
  have fin := hs q (row0 (pmP w)) g rt rf mg
  have hc : w = 13 ∨ w = 14 ∨ w = 15 ∨ w = 16 ∨ w = 18 ∨ w = 25 := by omega
  rcases hc with rfl | rfl | rfl | rfl | rfl | rfl
  · exact fin
  · exact fin
  · exact fin
  · exact fin
  · exact fin
  · exact fin
end
