/-! YEARS told, the model: when -/
section
variable {X : Xs} {d : Nat} {g : Mem} {t : Int → Int} {n q N a : Int} {s nm : Int → Int} {σ : Type} {P : Rr σ → Int → Mem → Prop} {f : Int → Sh → Mem → Option Rs}
theorem k_242 (hr : txR t n) (mg : Mg t n g q) (nn : NMm g s nm) (iv : Iv N s) (a0 : 1888 ≤ a) (a1 : a + 6 ≤ 3768) {k0 : Int} (rt : Rat g a (row0 k0)) {K : Int → (Int → Int) → Rr σ} (hs : ∀ q' r g', Rat g' a r → Frw a g g' → Mg t n g' q' → Ok (P (K q' r)) (f 1 S0 (ov g'))) (hf : ∀ c p g', Fdm g g' → Mf g' c p → Ok (P (.inl (c, p))) (f 0 S0 (ov g'))) : Ok (P (pTest t n q s nm K)) (oC (MI X (d + 9) 242 [.inr (.inr 143), .inl a] S0 (ov g)) f) := by
  have wr' := wd_r t n q
  rw [e_242]
  simp only [↓K_mod, ↓oC_of (m_220 hr mg.1 mg.2.1), ↓G_mod]
  unfold pTest
  -- the row's kind, the next TOKEN
  have row : ∀ x, Frw a g (wr g 144 a x) ∧ Rat (wr g 144 a x) a (row0 x) := fun x => by
    have h := Rat_wr rt (by omega) (j := 0) x (by omega) (by omega)
    rw [Int.add_zero, us_row0] at h
    exact ⟨Frw_wr _ _ (by omega) (by omega), h⟩
  by_cases w10 : wdP t n q = 10
  · rw [w10, show pmP 10 = 10 from rfl]
    rw [if_neg (show ¬ (10 : Int) = 20 by omega), if_pos (show (10 : Int) = 10 from rfl), if_pos (show (10 : Int) = 10 from rfl), show w32 (1900 + 10) = 1910 from rfl]
    obtain ⟨f0, r0⟩ := row 1910
    rw [as_144 g (i := a) 1910 (by omega) (by omega)]
    rw [oC_as]
    refine k_218 hr (Mg_wr mg (by omega) (by omega) (by omega) _ _) (fun v g1 fm1 mg1 => ?_)
    have f1 := Frw_tr f0 (Frw_FM fm1)
    have r1 := Rat_FM r0 (by omega) fm1
    have n1 := NMm_rw nn a0 f1
    rw [if_neg (show ¬ (10 : Int) = 25 by omega), if_neg (show ¬ (10 : Int) = 24 by omega), if_pos (show (10 : Int) = 10 from rfl), K_mod, oC_as, w32_id (x := a + 1) (by omega) (by omega)]
    refine k_241 (d := d) hr mg1 n1 iv (by omega) (by omega) (fun m g2 m0 m1 fm2 mg2 => ?_) (fun c p g2 fd mf => hf c p g2 (Fdm_tr (Fdm_rw f1 a0) fd) mf)
    have f2 := Frw_tr (Frw_tr f1 (Frw_wr g1 m (by omega) (k := a + 1) (by omega))) (Frw_FM fm2)
    have r2 := Rat_FM (Rat_wr r1 (by omega) (j := 1) m (by omega) (by omega)) (by omega) fm2
    simp only [Int.reduceEq, ↓reduceIte, ↓K_mod, ↓oC_of (m_219 mg2.2.1 60), ↓oC_of (m_219 mg2.2.1 62), ↓oC_of (m_219 mg2.2.1 61), ↓if_b2i]
    exact k_cmp (d := d + 6) hr mg2 a0 a1 r2 (Or.inl ⟨rfl, rfl⟩) (fun c z g3 x y w => hs _ _ g3 x (Frw_tr f2 y) w) (fun c p g3 fd mf => hf c p g3 (Fdm_tr (Fdm_rw f2 a0) fd) mf)
  have pw : ∀ c, 0 ≤ c → c < 26 → (pmP (wdP t n q) = pmP c ↔ wdP t n q = c) := fun c c0 c1 => pm_eq wr'.1 wr'.2 (by omega) c1
  have p10 := pw 10 (by omega) (by omega)
  rw [show pmP 10 = 10 from rfl] at p10
  rw [if_neg (show ¬ pmP (wdP t n q) = 10 from fun z => w10 (p10.1 z))]
  have nx : ∀ x, Ok (P (if wdP t n q = 20 then pCmp t n (nxP t n q) fun c => pNum t n (nx2 t n q) 0 12 fun z => K (nxP t n (nx2 t n q)) (us (us (row0 1923) 5 c) 2 z) else if wdP t n q = 10 then pMn t n (nxP t n q) s nm fun a => pCmp t n (nx2 t n q) fun c => pNum t n (nxP t n (nx2 t n q)) 0 60 fun z => K (nx2 t n (nx2 t n q)) (us (us (us (row0 1910) 1 a) 5 c) 2 z) else if wdP t n q = 21 then pTn t n (nxP t n q) s nm fun a => K (nx2 t n q) (us (row0 1924) 1 a) else if wdP t n q = 22 then K (nxP t n q) (row0 1925) else pBad t n q 2)) x ↔ Ok (P (if wdP t n q = 20 then pCmp t n (nxP t n q) fun c => pNum t n (nx2 t n q) 0 12 fun z => K (nxP t n (nx2 t n q)) (us (us (row0 1923) 5 c) 2 z) else if wdP t n q = 21 then pTn t n (nxP t n q) s nm fun a => K (nx2 t n q) (us (row0 1924) 1 a) else if wdP t n q = 22 then K (nxP t n q) (row0 1925) else pBad t n q 2)) x := fun x => by rw [if_neg w10]
  rw [nx]
  clear nx
  by_cases w20 : wdP t n q = 20
  · rw [w20, show pmP 20 = 23 from rfl]
    rw [if_pos (show (20 : Int) = 20 from rfl), if_neg (show ¬ (23 : Int) < 23 by omega), show w32 (1900 + 23) = 1923 from rfl]
    obtain ⟨f0, r0⟩ := row 1923
    rw [as_144 g (i := a) 1923 (by omega) (by omega), oC_as]
    refine k_218 hr (Mg_wr mg (by omega) (by omega) (by omega) _ _) (fun v g1 fm1 mg1 => ?_)
    have f1 := Frw_tr f0 (Frw_FM fm1)
    have r1 := Rat_FM r0 (by omega) fm1
    rw [if_neg (show ¬ (23 : Int) = 25 by omega), if_neg (show ¬ (23 : Int) = 24 by omega), if_neg (show ¬ (23 : Int) = 10 by omega)]
    simp only [↓K_mod, ↓oC_of (m_219 mg1.2.1 60), ↓oC_of (m_219 mg1.2.1 62), ↓oC_of (m_219 mg1.2.1 61), ↓if_b2i]
    exact k_cmp (d := d + 6) hr mg1 a0 a1 r1 (Or.inr ⟨by omega, rfl⟩) (fun c z g3 x y w => hs _ _ g3 x (Frw_tr f1 y) w) (fun c p g3 fd mf => hf c p g3 (Fdm_tr (Fdm_rw f1 a0) fd) mf)
  rw [if_neg w20]
  by_cases w21 : wdP t n q = 21
  · rw [w21, show pmP 21 = 24 from rfl]
    rw [if_pos (show (21 : Int) = 21 from rfl), if_neg (show ¬ (24 : Int) < 23 by omega), show w32 (1900 + 24) = 1924 from rfl]
    obtain ⟨f0, r0⟩ := row 1924
    rw [as_144 g (i := a) 1924 (by omega) (by omega), oC_as]
    refine k_218 hr (Mg_wr mg (by omega) (by omega) (by omega) _ _) (fun v g1 fm1 mg1 => ?_)
    have f1 := Frw_tr f0 (Frw_FM fm1)
    have r1 := Rat_FM r0 (by omega) fm1
    have n1 := NMm_rw nn a0 f1
    have b0 := n1.1
    rw [if_neg (show ¬ (24 : Int) = 25 by omega), if_pos (show (24 : Int) = 24 from rfl), (G_mod g1 _ _).1, al_144 X g1 (i := 0) (by omega) (by omega), b0, K_mod, oC_as, w32_id (x := a + 1) (by omega) (by omega)]
    refine k_235t (d := d + 1) hr mg1 n1 iv (by omega) (by omega) (fun m g2 m0 m1 fm2 mg2 => ?_) (fun c p g2 fd mf => hf c p g2 (Fdm_tr (Fdm_rw f1 a0) fd) mf)
    exact hs _ _ g2 (Rat_FM (Rat_wr r1 (by omega) (j := 1) m (by omega) (by omega)) (by omega) fm2) (Frw_tr (Frw_tr f1 (Frw_wr g1 m (by omega) (k := a + 1) (by omega))) (Frw_FM fm2)) mg2
  rw [if_neg w21]
  by_cases w22 : wdP t n q = 22
  · rw [w22, show pmP 22 = 25 from rfl]
    rw [if_pos (show (22 : Int) = 22 from rfl), if_neg (show ¬ (25 : Int) < 23 by omega), show w32 (1900 + 25) = 1925 from rfl]
    obtain ⟨f0, r0⟩ := row 1925
    rw [as_144 g (i := a) 1925 (by omega) (by omega), oC_as]
    refine k_218 hr (Mg_wr mg (by omega) (by omega) (by omega) _ _) (fun v g1 fm1 mg1 => ?_)
    rw [if_pos (show (25 : Int) = 25 from rfl)]
    exact hs _ _ g1 (Rat_FM r0 (by omega) fm1) (Frw_tr f0 (Frw_FM fm1)) mg1
  rw [if_neg w22]
  have p20 := pw 20 (by omega) (by omega)
  have p21 := pw 21 (by omega) (by omega)
  have p22 := pw 22 (by omega) (by omega)
  rw [show pmP 20 = 23 from rfl] at p20
  rw [show pmP 21 = 24 from rfl] at p21
  rw [show pmP 22 = 25 from rfl] at p22
  have lt : pmP (wdP t n q) < 23 := by
    have l26 : pmP (wdP t n q) < 26 := by
      unfold pmP
      (repeat' split) <;> omega
    omega
  rw [if_pos lt, oC_as]
  exact k_221 mg 2 (fun g2 fn mf => hf _ _ g2 (Fdm_FN fn) mf)
end
