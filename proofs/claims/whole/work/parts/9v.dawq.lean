/-! a DAWN told, the model: all of it -/
def Fbg (g g' : Mem) : Prop := ∀ c i, 0 ≤ c → 0 ≤ i → (c ≠ 143 ∨ i < 10 ∨ i = 16 ∨ 19 < i) → c ≠ 150 → rd g' c i = rd g c i
section
variable {X : Xs} {d : Nat} {g : Mem} {t : Int → Int} {n q : Int} {s nm : Int → Int} {told : Int}
theorem m_222_l (hr : txR t n) : ∀ (k : Nat) (i : Int) (g : Mem), i + k = n → 0 ≤ i → rd g 143 11 = n → (∀ j, 0 ≤ j → j < n → rd g 149 j = t j) → (∀ j, 0 ≤ j → j < i → rd g 150 j = t j) → Ok (fun v g' => v = 1 ∧ Mg t n g' (skP t n 0) ∧ rd g' 143 17 = -1 ∧ rd g' 143 10 = 0 ∧ Fbg g g') (EI X (d + 2) 222 26 [some (.inr (.inr 143)), some (.inl n), none, some (.inl i)] [] S0 (ov g)) := by
  obtain ⟨n0, n9, hb⟩ := id hr
  intro k
  induction k with
  | zero =>
    intro i g hk i0 h11 h149 h150
    have ei : i = n := by omega
    subst ei
    rw [e_222_26, if_neg (by omega)]
    simp only [↓P_mod, ↓K_mod]
    generalize hg1 : wr (wr (wr (wr (wr g 143 10 0) 143 18 0) 143 17 (-1)) 143 14 0) 143 19 0 = g1
    have fr : ∀ c j, 0 ≤ c → 0 ≤ j → (c ≠ 143 ∨ (j ≠ 10 ∧ j ≠ 18 ∧ j ≠ 17 ∧ j ≠ 14 ∧ j ≠ 19)) → rd g1 c j = rd g c j := fun c j a b e => by
      subst hg1
      by_cases z : c = 143
      · subst z
        rw [rd_wr_ix _ _ (by omega) b (by omega), rd_wr_ix _ _ (by omega) b (by omega), rd_wr_ix _ _ (by omega) b (by omega), rd_wr_ix _ _ (by omega) b (by omega), rd_wr_ix _ _ (by omega) b (by omega)]
      · simp (disch := omega) only [rd_wr_ne]
    have e10 : rd g1 143 10 = 0 := by subst hg1; simp (disch := omega) only [rd_wr_ix, rd_wr_eq]
    have e18 : rd g1 143 18 = 0 := by subst hg1; simp (disch := omega) only [rd_wr_ix, rd_wr_eq]
    have e17 : rd g1 143 17 = -1 := by subst hg1; simp (disch := omega) only [rd_wr_ix, rd_wr_eq]
    have e14 : rd g1 143 14 = 0 := by subst hg1; simp (disch := omega) only [rd_wr_ix, rd_wr_eq]
    clear hg1
    have tm1 : Tm t i g1 := ⟨(fr _ _ (by omega) (by omega) (by omega)).trans h11, fun j a b => (fr _ _ (by omega) a (by omega)).trans (h150 j a b)⟩
    obtain ⟨v, g2, e2, ms, fm⟩ := m_218 (X := X) (d := d) hr (p := 0) (by omega) n0 tm1 e14
    rw [oC_of e2]
    refine Ok_some ⟨rfl, ⟨Tm_FM tm1 fm, ms, (fm _ _ (by omega) (by omega) (by omega)).trans e18, (fm _ _ (by omega) (by omega) (by omega)).trans e17⟩, (fm _ _ (by omega) (by omega) (by omega)).trans e17, (fm _ _ (by omega) (by omega) (by omega)).trans e10, fun c j a b e z => ?_⟩
    rw [fm c j a b (by omega)]
    exact fr c j a b (by omega)
  | succ k ih =>
    intro i g hk i0 h11 h149 h150
    have hi := hb i i0 (by omega)
    rw [e_222_26, if_pos (by omega)]
    simp (disch := omega) only [↓G_mod, ↓al_149, h149 i i0 (by omega), w8_id, ↓as_150, w32_id]
    refine Ok_mono (ih (i + 1) (wr g 150 i (t i)) (by omega) (by omega) ?_ (fun j a b => ?_) (fun j a b => ?_)) ?_
    · rw [rd_wr_ne _ _ _ _ (by omega) (by omega) (by omega)]; exact h11
    · rw [rd_wr_ne _ _ _ _ (by omega) (by omega) (by omega)]; exact h149 j a b
    · rw [rd_wr_if _ _ _ (by omega) a]
      by_cases z : j = i
      · rw [if_pos z, z]
      · rw [if_neg z]; exact h150 j a (by omega)
    · rintro v g' ⟨a, b, c, e, h⟩
      exact ⟨a, b, c, e, fun c' j x y z w => (h c' j x y z w).trans (rd_wr_ne _ _ _ _ (by omega) x w)⟩
theorem m_222 (hr : txR t n) {mx : Int} (l1 : n ≤ rd g 143 10) (l2 : n ≤ mx) (h149 : ∀ j, 0 ≤ j → j < n → rd g 149 j = t j) : Ok (fun v g' => v = 1 ∧ Mg t n g' (skP t n 0) ∧ rd g' 143 17 = -1 ∧ rd g' 143 10 = 0 ∧ Fbg g g') (MI X (d + 2) 222 [.inr (.inr 143), .inl n, .inl mx] S0 (ov g)) := by
  obtain ⟨n0, n9, hb⟩ := id hr
  rw [e_222, if_neg (by omega)]
  simp only [↓G_mod]
  rw [if_neg (by omega), if_neg (by omega)]
  simp only [↓P_mod]
  refine Ok_mono (m_222_l hr n.toNat 0 (wr g 143 11 n) (by omega) (by omega) (rd_wr_eq _ _ _ _) (fun j a b => ?_) (fun j a b => by omega)) ?_
  · rw [rd_wr_ne _ _ _ _ (by omega) (by omega) (by omega)]; exact h149 j a b
  · rintro v g' ⟨a, b, c, e, h⟩
    refine ⟨a, b, c, e, fun c' j x y z w => (h c' j x y z w).trans ?_⟩
    by_cases v : c' = 143
    · subst v; exact rd_wr_ix _ _ (by omega) y (by omega)
    · exact rd_wr_ne _ _ _ _ (by omega) x v
theorem m_196_l : ∀ (k : Nat) (i : Int) (g : Mem), i + k = 472 → 0 ≤ i → (∀ j, 0 ≤ j → j < i → rd g 144 (1888 + j) = 0) → Ok (fun _ g' => (∀ j, 0 ≤ j → j < 472 → rd g' 144 (1888 + j) = sD j) ∧ (∀ c j, 0 ≤ c → 0 ≤ j → (c ≠ 144 ∨ j < 1888) → rd g' c j = rd g c j)) (EI X d 196 2 [some (.inr (.inr 143)), some (.inl 1888), some (.inl i)] [] S0 (ov g)) := by
  intro k
  induction k with
  | zero =>
    intro i g hk i0 hz
    rw [e_196_2, if_neg (by omega)]
    simp (disch := omega) only [↓G_mod, w32_id, ↓as_144]
    refine Ok_some ⟨fun j a b => ?_, fun c j a b e => ?_⟩
    · rw [rd_wr_if _ _ _ (by omega) (by omega), rd_wr_if _ _ _ (by omega) (by omega), rd_wr_if _ _ _ (by omega) (by omega), rd_wr_if _ _ _ (by omega) (by omega), rd_wr_if _ _ _ (by omega) (by omega), rd_wr_if _ _ _ (by omega) (by omega), hz j a (by omega)]
      unfold sD
      (repeat' split) <;> first | rfl | omega
    · by_cases z : c = 144
      · subst z
        rw [rd_wr_ix _ _ (by omega) b (by omega), rd_wr_ix _ _ (by omega) b (by omega), rd_wr_ix _ _ (by omega) b (by omega), rd_wr_ix _ _ (by omega) b (by omega), rd_wr_ix _ _ (by omega) b (by omega), rd_wr_ix _ _ (by omega) b (by omega)]
      · simp (disch := omega) only [rd_wr_ne]
  | succ k ih =>
    intro i g hk i0 hz
    rw [e_196_2, if_pos (by omega)]
    simp (disch := omega) only [↓G_mod, w32_id, ↓as_144]
    refine Ok_mono (ih (i + 1) (wr g 144 (1888 + i) 0) (by omega) (by omega) (fun j a b => ?_)) ?_
    · rw [rd_wr_if _ _ _ (by omega) (by omega)]
      by_cases z : j = i
      · rw [if_pos (by omega)]
      · rw [if_neg (by omega)]; exact hz j a (by omega)
    · rintro v g' ⟨a, b⟩
      refine ⟨a, fun c j x y z => (b c j x y z).trans ?_⟩
      by_cases w : c = 144
      · subst w; exact rd_wr_ix _ _ (by omega) y (by omega)
      · exact rd_wr_ne _ _ _ _ (by omega) x w
theorem nx_b (t : Int → Int) {n q : Int} (h : q ≤ n) : nxP t n q ≤ n := by
  by_cases z : n ≤ q
  · have e : enP t n q = n := if_pos z
    show skP t n (enP t n q) ≤ n
    rw [e]
    exact (sk_b t (n := n) (p := n) (by omega)).2.1
  · exact (sk_b t (n := n) (p := enP t n q) (enP_b t z).2).2.1
/-- what follows the parts -/
noncomputable def A59 (X : Xs) (d : Nat) (g : Mem) : Option Rs := EI X (d + 11) 240 59 [some (.inr (.inr 143)), none, none, some (.inl 0)] [] S0 (ov g)
noncomputable def A30 (X : Xs) (d : Nat) (g : Mem) : Option Rs := oC (MI X (d + 10) 230 [.inr (.inr 143), .inl (rd g 144 1)] S0 (ov g)) fun r4 S4 m4 => some (r4, S4, m4)
theorem m_240_l (hr : txR t n) {P : Rr ((Int → Int) × (Int → Int)) → Int → Mem → Prop} {g0 : Mem} (hbad : ∀ c p g', Fdm g0 g' → Mf g' c p → Ok (P (.inl (c, p))) (A30 X d g')) (hok : ∀ s nm g', Fdm g0 g' → DMs g' s nm → PU s → (rd g' 143 18 = 0 ∧ rd g' 143 17 = -1) → Ok (P (.inr (s, nm))) (A59 X d g')) : ∀ (k : Nat) (q : Int) (g : Mem) (s nm : Int → Int) (told : Int), n + 1 ≤ q + k → Mg t n g q → DMs g s nm → Zr s → PU s → TB (rd g 143 20) told → Fdm g0 g → Ok (P (pDawn t n k q s nm told)) (EI X (d + 11) 240 31 [some (.inr (.inr 143)), none, some (.inl 1), none] [] S0 (ov g)) := by
  intro k
  induction k with
  | zero =>
    intro q g s nm told h1 mg dm zr pu tb fd
    have := mg.2.1.2.2.2.2.2
    omega
  | succ k ih =>
    intro q g s nm told h1 mg dm zr pu tb fd
    have h12 := mg.2.1.1
    have m0 : mkP (kdP t n q) = 0 ↔ kdP t n q = 0 := by
      by_cases z : n ≤ q
      · rw [kdP_0 z]; decide
      · have := kdP_r t z
        unfold mkP
        (repeat' split) <;> omega
    rw [e_240_31, if_neg (by omega)]
    simp only [↓G_mod, h12, mg.2.2.1, ↓K_mod, ↓reduceIte]
    unfold pDawn
    by_cases hk : kdP t n q = 0
    · rw [if_pos (m0.2 hk), if_pos hk]
      exact hok s nm g fd dm pu mg.2.2
    · rw [if_neg (fun z => hk (m0.1 z)), if_neg hk]
      show Ok (P (pPart t n q s nm told fun q' s' nm' told' => pDawn t n k q' s' nm' told')) _
      refine k_239 hr hk mg dm zr pu tb (fun q' s' nm' told' g' gd => ?_) (fun c p g' fd' mf => ?_)
      · obtain ⟨a1, a2, a3, a4, a5, a6, a7, a8⟩ := gd
        exact ih q' g' s' nm' told' (by omega) a1 a2 a3 a4 a5 (Fdm_tr fd a6)
      · have q1 := hbad c p g' (Fdm_tr fd fd') mf
        obtain ⟨f1, f2, f3, f4⟩ := mf
        show Ok _ (EI X (d + 11) 240 31 [some (.inr (.inr 143)), none, some (.inl 0), none] [] S0 (ov g'))
        rw [e_240_31, if_pos rfl]
        simp (disch := omega) only [↓G_mod, f1, ↓al_144, ↓K_mod]
        rw [if_neg (by omega)]
        exact q1
end
