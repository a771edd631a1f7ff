/-! YEARS told, the model: all of them -/
/-- what follows the STEPS -/
noncomputable def A23 (X : Xs) (d : Nat) (g : Mem) : Option Rs := oC (MI X (d + 12) 230 [.inr (.inr 143), .inl (rd g 143 23)] S0 (ov g)) fun r4 S4 m4 => some (r4, S4, m4)
noncomputable def A102 (X : Xs) (d : Nat) (g : Mem) : Option Rs := EI X (d + 13) 245 102 [some (.inr (.inr 143)), none, none, some (.inl 104)] [] S0 (ov g)
def FQy (g g' : Mem) : Prop := ∀ c i, 0 ≤ c → 0 ≤ i → (c ≠ 143 ∨ (i ≠ 2 ∧ (i < 10 ∨ (20 < i ∧ i ≠ 22 ∧ i ≠ 23)))) → (c ≠ 144 ∨ (i ≠ 11 ∧ (i < 104 ∨ 463 < i) ∧ i < 1888)) → (c ≠ 145 ∨ i < 56) → c ≠ 150 → c ≠ 151 → rd g' c i = rd g c i
def Qym (g : Mem) (r : Rr ((Int → Int → Int) × Int × Int)) (v : Int) (g' : Mem) : Prop := FQy g g' ∧ rd g' 143 10 = 0 ∧ match r with
  | .inl (c, p) => v = -1 ∧ rd g' 143 2 = 9 ∧ rd g' 143 16 = c ∧ rd g' 143 17 = p ∧ (∀ i, 0 ≤ i → i < 472 → rd g' 144 i = rd g 144 i)
  | .inr (R, np, ns) => v = ns ∧ rd g' 143 2 = 0 ∧ rd g' 143 16 = 0 ∧ rd g' 143 17 = -1 ∧ rd g' 144 11 = np ∧ (∀ i k, 0 ≤ i → i < np → 0 ≤ k → k < 6 → rd g' 144 (104 + 6 * i + k) = R i k)
section
variable {X : Xs} {d : Nat} {g : Mem} {t : Int → Int} {n q N : Int} {s nm : Int → Int}
theorem m_A23 (c : Int) (h : rd g 143 18 = c) : A23 X d g = some (if 0 < c then -1 else rd g 143 23, S0, ov (wr (wr g 143 16 c) 143 2 (if 0 < c then 9 else 0))) := by
  unfold A23
  rw [e_230]
  simp (disch := omega) only [↓G_mod, h, ↓P_mod, rd_wr_ix, ↓K_mod]
  by_cases z : 0 < c
  · rw [if_pos z, if_pos z, if_pos z, e_201]
    simp only [↓P_mod]
    rfl
  · rw [if_neg z, if_neg z, if_neg z, e_202]
    simp only [↓P_mod]
    rfl
theorem m_245_102 {Q : Int → Mem → Prop} : ∀ (k : Nat) (i : Int) (g : Mem), i + k = 464 → 104 ≤ i → (∀ j, 104 ≤ j → j < i → rd g 144 j = rd g 144 (1888 + j)) → (∀ g', (∀ j, 104 ≤ j → j < 464 → rd g' 144 j = rd g 144 (1888 + j)) → (∀ c j, 0 ≤ c → 0 ≤ j → (c ≠ 144 ∨ j < 104 ∨ 463 < j) → rd g' c j = rd g c j) → Ok Q (A23 X d g')) → Ok Q (EI X (d + 13) 245 102 [some (.inr (.inr 143)), none, none, some (.inl i)] [] S0 (ov g)) := by
  intro k
  induction k with
  | zero =>
    intro i g hk i0 hz h
    have q1 := h g (fun j a b => hz j a (by omega)) (fun _ _ _ _ _ => rfl)
    rw [e_245_102, if_neg (by omega)]
    simp (disch := omega) only [↓G_mod, ↓K_mod]
    exact q1
  | succ k ih =>
    intro i g hk i0 hz h
    rw [e_245_102, if_pos (by omega)]
    simp (disch := omega) only [↓G_mod, w32_id, ↓al_144, ↓as_144]
    refine ih (i + 1) (wr g 144 i (rd g 144 (1888 + i))) (by omega) (by omega) (fun j a b => ?_) (fun g' x y => h g' (fun j a b => ?_) (fun c j a b e => ?_))
    · rw [rd_wr_if _ _ _ (by omega) (by omega), rd_wr_ix _ _ (by omega) (by omega) (by omega)]
      by_cases z : j = i
      · rw [if_pos z, z]
      · rw [if_neg z]; exact hz j a (by omega)
    · rw [x j a b, rd_wr_ix _ _ (by omega) (by omega) (by omega)]
    · rw [y c j a b e]
      by_cases w : c = 144
      · subst w; exact rd_wr_ix _ _ (by omega) b (by omega)
      · exact rd_wr_ne _ _ _ _ (by omega) a w
theorem m_245_l (hr : txR t n) (iv : Iv N s) {P : Rr ((Int → Int → Int) × Int × Int) → Int → Mem → Prop} {g0 : Mem} (hbad : ∀ c p g', Fyr g0 g' → Mf g' c p → Ok (P (.inl (c, p))) (A23 X d g')) (hok : ∀ R np ns om q g', Fyr g0 g' → MY t n g' s nm R np ns 0 om q → Ok (P (.inr (R, np, ns))) (A102 X d (wr g' 144 11 np))) : ∀ (k : Nat) (q : Int) (g : Mem) (R : Int → Int → Int) (np ns D : Int) (oc om : Int → Int), n + 1 ≤ q + k → MY t n g s nm R np ns D om q → Fyr g0 g → Ok (P (pYears t n s nm k q R np ns D oc om)) (EI X (d + 13) 245 38 [some (.inr (.inr 143)), none, some (.inl 1), none] [] S0 (ov g)) := by
  intro k
  induction k with
  | zero =>
    intro q g R np ns D oc om h1 my fd
    have := my.1.2.1.2.2.2.2.2
    omega
  | succ k ih =>
    intro q g R np ns D oc om h1 my fd
    obtain ⟨mg, nn, a3, a4, a5, a6, a7, a8⟩ := id my
    have h12 := mg.2.1.1
    have m0 : mkP (kdP t n q) = 0 ↔ kdP t n q = 0 := by
      by_cases z : n ≤ q
      · rw [kdP_0 z]; decide
      · have := kdP_r t z
        unfold mkP
        (repeat' split) <;> omega
    rw [e_245_38, if_neg (show ¬ (1 : Int) = 0 by omega), (G_mod g _ _).1]
    unfold pYears
    by_cases hk : kdP t n q = 0
    · rw [if_pos hk]
      simp only [↓G_mod, h12, mg.2.2.1, a4, ↓reduceIte]
      rw [if_pos (m0.2 hk)]
      by_cases hD : D = 0
      · rw [if_pos hD, if_neg (by omega), al_144 X g (i := 1899) (by omega) (by omega), a3, as_144 g (i := 11) _ (by omega) (by omega)]
        subst hD
        exact hok R np ns om q g fd my
      · rw [if_neg hD, if_pos (by omega), K_mod]
        refine k_221 mg 2 (fun g' fn mf => ?_) (by omega)
        have q1 := hbad _ _ g' (Fyr_tr fd (Fyr_dm (Fdm_FN fn))) mf
        obtain ⟨f1, f2, f3, f4⟩ := mf
        simp only [↓G_mod, f1, ↓K_mod]
        rw [if_neg (by omega)]
        exact q1
    · rw [if_neg hk]
      simp only [↓G_mod, h12]
      rw [if_neg (fun z => hk (m0.1 z)), K_mod]
      refine k_244u (d := d) hr iv my hk (fun q' R' np' ns' D' oc' om' g' lt my' fy => ?_) (fun c p g' fd' mf => ?_)
      · exact ih q' g' R' np' ns' D' oc' om' (by omega) my' (Fyr_tr fd fy)
      · have q1 := hbad c p g' (Fyr_tr fd fd') mf
        obtain ⟨f1, f2, f3, f4⟩ := mf
        rw [e_245_38, if_pos rfl]
        simp only [↓G_mod, f1, ↓K_mod]
        rw [if_neg (show ¬ c = 0 by omega), if_neg (show ¬ c = 0 by omega)]
        exact q1
theorem m_245 (hr : txR t n) (n3 : n ≤ 300) (iv : Iv N s) (nn : NMm g s nm) (l1 : n ≤ rd g 143 10) (h149 : ∀ j, 0 ≤ j → j < n → rd g 149 j = t j) : Ok (Qym g (pYears0 t n s nm)) (MI X (d + 13) 245 [.inr (.inr 143), .inl n] S0 (ov g)) := by
  obtain ⟨n0, n9, -⟩ := id hr
  obtain ⟨i0, i1, i2, i3, -⟩ := id iv
  obtain ⟨v1, g1, e1, rfl, mg1, h17, h10, f1⟩ := m_222 (X := X) (d := d + 10) hr l1 n3 h149
  rw [e_245]
  simp only [↓K_mod, ↓oC_of e1]
  rw [if_neg (show ¬ (1 : Int) = 0 by omega)]
  simp (disch := omega) only [↓G_mod, ↓as_144, ↓P_mod]
  have fr : ∀ c i, 0 ≤ c → 0 ≤ i → (c ≠ 143 ∨ (i ≠ 22 ∧ i ≠ 23)) → (c ≠ 144 ∨ i ≠ 1899) → rd (wr (wr (wr g1 144 1899 0) 143 22 0) 143 23 0) c i = rd g1 c i := fun c i x y z w => by
    by_cases u : c = 143
    · subst u
      rw [rd_wr_ix _ _ (by omega) y (by omega), rd_wr_ix _ _ (by omega) y (by omega), rd_wr_ne _ _ _ _ (by omega) x (by omega)]
    · rw [rd_wr_ne _ _ _ _ (by omega) x u, rd_wr_ne _ _ _ _ (by omega) x u]
      by_cases v : c = 144
      · subst v; exact rd_wr_ix _ _ (by omega) y (by omega)
      · exact rd_wr_ne _ _ _ _ (by omega) x v
  have q99 : rd (wr (wr (wr g1 144 1899 0) 143 22 0) 143 23 0) 144 1899 = 0 := by simp (disch := omega) only [rd_wr_ne, rd_wr_eq]
  have q22 : rd (wr (wr (wr g1 144 1899 0) 143 22 0) 143 23 0) 143 22 = 0 := by simp (disch := omega) only [rd_wr_ix, rd_wr_eq]
  have q23 : rd (wr (wr (wr g1 144 1899 0) 143 22 0) 143 23 0) 143 23 = 0 := rd_wr_eq _ _ _ _
  generalize wr (wr (wr g1 144 1899 0) 143 22 0) 143 23 0 = g3 at fr q99 q22 q23 ⊢
  have mg3 : Mg t n g3 (skP t n 0) := by
    obtain ⟨⟨x1, x2⟩, ⟨y1, y2, y3, y4, y5⟩, x4, x5⟩ := mg1
    exact ⟨⟨(fr _ _ (by omega) (by omega) (by omega) (by omega)).trans x1, fun i x y => (fr _ _ (by omega) x (by omega) (by omega)).trans (x2 i x y)⟩, ⟨(fr _ _ (by omega) (by omega) (by omega) (by omega)).trans y1, (fr _ _ (by omega) (by omega) (by omega) (by omega)).trans y2, (fr _ _ (by omega) (by omega) (by omega) (by omega)).trans y3, fun z => (fr _ _ (by omega) (by omega) (by omega) (by omega)).trans (y4 z), y5⟩, (fr _ _ (by omega) (by omega) (by omega) (by omega)).trans x4, (fr _ _ (by omega) (by omega) (by omega) (by omega)).trans x5⟩
  have k3 : ∀ c i, 0 ≤ c → 0 ≤ i → c ≠ 143 → (c ≠ 144 ∨ i ≠ 1899) → c ≠ 150 → rd g3 c i = rd g c i := fun c i x y z w u => (fr c i x y (by omega) w).trans (f1 c i x y (by omega) u)
  obtain ⟨m0, m1, m2, m3⟩ := nn
  have my3 : MY t n g3 s nm (fun _ _ => 0) 0 0 0 (fun _ => 0) (skP t n 0) := ⟨mg3, ⟨(k3 _ _ (by omega) (by omega) (by omega) (by omega) (by omega)).trans m0, (k3 _ _ (by omega) (by omega) (by omega) (by omega) (by omega)).trans m1, fun i x y => (k3 _ _ (by omega) x (by omega) (by omega) (by omega)).trans (m2 i x y), fun i x y => (k3 _ _ (by omega) (by omega) (by omega) (by omega) (by omega)).trans (m3 i x y)⟩, q99, q22, q23, fun l x y => by omega, fun i k x y => by omega, by omega⟩
  have e10 : rd g3 143 10 = 0 := (fr _ _ (by omega) (by omega) (by omega) (by omega)).trans h10
  have fq3 : FQy g g3 := fun c i x y z w v u o => by
    rw [fr c i x y (by omega) (by omega)]
    exact f1 c i x y (by omega) u
  have sk := sk_b t (n := n) (p := 0) n0
  have wn : ∀ (g' : Mem) (x y c i : Int), 0 ≤ c → 0 ≤ i → (c ≠ 143 ∨ (i ≠ 16 ∧ i ≠ 2)) → rd (wr (wr g' 143 16 x) 143 2 y) c i = rd g' c i := fun g' x y c i a b e => by
    by_cases z : c = 143
    · subst z
      rw [rd_wr_ix _ _ (by omega) b (by omega), rd_wr_ix _ _ (by omega) b (by omega)]
    · rw [rd_wr_ne _ _ _ _ (by omega) a z, rd_wr_ne _ _ _ _ (by omega) a z]
  have wq : ∀ (g' : Mem) (c x : Int), FQy g g' → FQy g (wr (wr g' 143 16 c) 143 2 x) := fun g' c x h c' i a b e w v u o => by
    rw [wn _ _ _ _ _ a b (by omega)]
    exact h c' i a b e w v u o
  refine m_245_l hr iv (P := Qym g) (g0 := g3) (fun c p g' fd mf => ?_) (fun R np ns om q g' fd my => ?_) (n + 1).toNat (skP t n 0) g3 _ 0 0 0 _ _ (by omega) my3 (fun _ _ _ _ _ _ _ _ => rfl)
  · obtain ⟨m1, m2, m3, m4⟩ := mf
    rw [m_A23 c m1, if_pos m3, if_pos m3]
    have fq' : FQy g g' := fun c i x y z w v u o => (fd c i x y (by omega) (by omega) (by omega) o).trans (fq3 c i x y z w v u o)
    refine Ok_some ⟨wq g' _ _ fq', ?_, rfl, rd_wr_eq _ _ _ _, ?_, ?_, fun i a b => ?_⟩
    · rw [wn _ _ _ _ _ (by omega) (by omega) (by omega), fd _ _ (by omega) (by omega) (by omega) (by omega) (by omega) (by omega)]; exact e10
    · rw [rd_wr_ix _ _ (by omega) (by omega) (by omega)]; exact rd_wr_eq _ _ _ _
    · rw [wn _ _ _ _ _ (by omega) (by omega) (by omega)]; exact m2
    · rw [wn _ _ _ _ _ (by omega) a (by omega), fd _ _ (by omega) a (by omega) (by omega) (by omega) (by omega)]; exact k3 _ _ (by omega) a (by omega) (by omega) (by omega)
  · obtain ⟨mg', -, a3, a4, a5, a6, a7, a8⟩ := my
    unfold A102
    refine m_245_102 360 104 (wr g' 144 11 np) (by omega) (by omega) (fun j a b => by omega) (fun g4 x z => ?_)
    have w1 : ∀ c i, 0 ≤ c → 0 ≤ i → (c ≠ 144 ∨ i ≠ 11) → rd (wr g' 144 11 np) c i = rd g' c i := fun c i a b e => by
      by_cases v : c = 144
      · subst v; exact rd_wr_ix _ _ (by omega) b (by omega)
      · exact rd_wr_ne _ _ _ _ (by omega) a v
    have z' : ∀ c j, 0 ≤ c → 0 ≤ j → (c ≠ 144 ∨ (j ≠ 11 ∧ (j < 104 ∨ 463 < j))) → rd g4 c j = rd g' c j := fun c j a b e => (z c j a b (by omega)).trans (w1 c j a b (by omega))
    have e18 : rd g4 143 18 = 0 := (z' _ _ (by omega) (by omega) (by omega)).trans mg'.2.2.1
    have fq' : FQy g g4 := fun c i x' y' u1 u2 u3 u4 u5 => by
      rw [z' c i x' y' (by omega), fd c i x' y' (by omega) (by omega) (by omega) u5]
      exact fq3 c i x' y' u1 u2 u3 u4 u5
    have x11 : rd g4 144 11 = np := (z _ _ (by omega) (by omega) (by omega)).trans (rd_wr_eq _ _ _ _)
    rw [m_A23 0 e18, if_neg (by omega), if_neg (by omega)]
    refine Ok_some ⟨wq g4 _ _ fq', ?_, (z' _ _ (by omega) (by omega) (by omega)).trans a5, rd_wr_eq _ _ _ _, ?_, ?_, ?_, fun i k a b c e => ?_⟩
    · rw [wn _ _ _ _ _ (by omega) (by omega) (by omega), z' _ _ (by omega) (by omega) (by omega), fd _ _ (by omega) (by omega) (by omega) (by omega) (by omega) (by omega)]; exact e10
    · rw [rd_wr_ix _ _ (by omega) (by omega) (by omega)]; exact rd_wr_eq _ _ _ _
    · rw [wn _ _ _ _ _ (by omega) (by omega) (by omega), z' _ _ (by omega) (by omega) (by omega)]; exact mg'.2.2.2
    · rw [wn _ _ _ _ _ (by omega) (by omega) (by omega)]; exact x11
    · rw [wn _ _ _ _ _ (by omega) (by omega) (by omega), x _ (by omega) (by omega), show 1888 + (104 + 6 * i + k) = 1992 + 6 * i + k by omega, w1 _ _ (by omega) (by omega) (by omega)]; exact a7 i k a b c e
end
