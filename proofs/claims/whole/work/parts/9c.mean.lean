/-! mean of both -/
theorem wk_cg {n0 n1 : Int} {cw cw' R : Int → Int → Int} : ∀ (f : Nat) (D i j p q : Int), Blk n0 n1 cw R f D i j p q → (∀ k t, 0 ≤ k → k ≤ 6 → i ≤ t → t < j → cw' k t = cw k t) → ∀ x, wk cw' f i j x = wk cw f i j x
  | 0, _, _, _, _, _, _, _, _ => rfl
  | f + 1, D, i, j, p, q, h, hc, x => by
    by_cases hij : i < j
    case neg => rw [wk_s, wk_s, if_neg hij, if_neg hij]
    have c : ∀ k, 0 ≤ k → k ≤ 6 → cw' k i = cw k i := fun k a b => hc k i a b (by omega) hij
    rw [wk_s, wk_s, if_pos hij, if_pos hij, c 0 (by omega) (by omega), c 1 (by omega) (by omega), c 2 (by omega) (by omega), c 3 (by omega) (by omega), c 4 (by omega) (by omega), c 5 (by omega) (by omega), c 6 (by omega) (by omega)]
    rcases h with ⟨h1, h2⟩ | ⟨h1, h2, h3⟩ | ⟨h1, h2, h3, p', h4, h5, h6, h7, h8⟩
    · omega
    · have nw : ¬ (cw 0 i = 23 ∨ cw 0 i = 19) := by
        rcases h2 with h2 | ⟨a, -⟩
        · omega
        · have := a.1; have := a.2.1; omega
      rw [if_neg nw, if_neg nw, wk_cg f D (i + 1) j (p + 1) q h3 (fun k t a b e g => hc k t a b (by omega) g)]
    · have l7 := Blk_le _ _ _ _ _ _ h7
      have l8 := Blk_le _ _ _ _ _ _ h8
      have e1 : wk cw' f (i + 1) (cw 6 i) = wk cw f (i + 1) (cw 6 i) := funext (fun y => wk_cg f (D + 1) (i + 1) (cw 6 i) (p + 1) p' h7 (fun k t a b e g => hc k t a b (by omega) (by omega)) y)
      have e2 : ∀ y, wk cw' f (cw 6 i) j y = wk cw f (cw 6 i) j y := fun y => wk_cg f D (cw 6 i) j (p' + 1) q h8 (fun k t a b e g => hc k t a b (by omega) g) y
      have nw : cw 0 i = 23 ∨ cw 0 i = 19 := by rcases h2 with h2 | h2; exact Or.inl h2.1; exact Or.inr h2.1
      rw [if_pos nw, if_pos nw, e1, e2]
section
variable {X : Xs} {d : Nat} {N : Int} {g : Mem} {s : Int → Int}
theorem AnC_deny {g1 : Mem} (h : FC g g1) (v : Int) : AnC g (0, v) (oC (MI X d 185 [.inr (.inr 1), .inl v] S0 (ov g1)) fun r S m => if r = 0 ∨ r = 1 then some (r, S, m) else none) := by
  rw [oC_of (c_185 v), if_pos (Or.inl rfl)]
  exact Ok_some ⟨rfl, rd_wr_eq _ _ _ _, FC_tr h (FC_st _ _)⟩
theorem AnM_not {g1 : Mem} (h : FN g g1) {v : Int} (hv : v ≠ 0) : AnM g (0, v) (oC (MI X d 200 [.inr (.inr 143), .inl v] S0 (ov g1)) fun r S m => if r = 0 ∨ r = 1 then some (r, S, m) else none) := by
  rw [oC_of (m_is0 hv), if_pos (Or.inl rfl)]
  exact Ok_some ⟨rfl, rd_wr_eq _ _ _ _, FN_tr h (FN_st _ _)⟩
theorem FC_frG {g1 : Mem} (h : FC g g1) (t b : Int) : FC (frG g 1 18 19 t b) (frG g1 1 18 19 t b) := fun c i x y z w => by
  obtain ⟨x1, x2, x3⟩ := frG_rd g (c := 1) (i := 18) (j := 19) (t := t) (b := b) (by omega) (by omega) (by omega) (by omega)
  obtain ⟨y1, y2, y3⟩ := frG_rd g1 (c := 1) (i := 18) (j := 19) (t := t) (b := b) (by omega) (by omega) (by omega) (by omega)
  by_cases h1 : c = 1 ∧ i = 18
  · obtain ⟨rfl, rfl⟩ := h1; rw [x1, y1]
  by_cases h2 : c = 1 ∧ i = 19
  · obtain ⟨rfl, rfl⟩ := h2; rw [x2, y2]
  rw [x3 c i x y (by omega), y3 c i x y (by omega)]
  exact h c i x y z w
theorem FN_frG {g1 : Mem} (h : FN g g1) (t b : Int) : FN (frG g 143 3 4 t b) (frG g1 143 3 4 t b) := fun c i x y z w => by
  obtain ⟨x1, x2, x3⟩ := frG_rd g (c := 143) (i := 3) (j := 4) (t := t) (b := b) (by omega) (by omega) (by omega) (by omega)
  obtain ⟨y1, y2, y3⟩ := frG_rd g1 (c := 143) (i := 3) (j := 4) (t := t) (b := b) (by omega) (by omega) (by omega) (by omega)
  by_cases h1 : c = 143 ∧ i = 3
  · obtain ⟨rfl, rfl⟩ := h1; rw [x1, y1]
  by_cases h2 : c = 143 ∧ i = 4
  · obtain ⟨rfl, rfl⟩ := h2; rw [x2, y2]
  rw [x3 c i x y (by omega), y3 c i x y (by omega)]
  exact h c i x y z w
/-- what one of the YEARS gives -/
def mnV (cw : Int → Int → Int) (f : Nat) (ns : Int) (s : Int → Int) (v : Int) : Int := awN (wk cw f 0 ns (s, c0L v)).2.1
theorem c_178_l {cw R : Int → Int → Int} (hN : N + 300 < 800000) (hi : Iv N s) {v m ns nr : Int} (v0 : 0 ≤ v) (v1 : v + m - 1 ≤ 9999) (m1 : 1 ≤ m) (m20 : m ≤ 20) (n0 : 0 ≤ ns) (n30 : ns ≤ 30) (f : Nat) (hB : Blk (s 0) (s 1) cw R f 0 0 ns 0 nr) {g0 : Mem} (r0 : RD g0 19 s) (t0 : rd g0 32 0 = 1) (hns : rd g0 32 1 = ns) (hc : ∀ k t, 0 ≤ k → k ≤ 6 → 0 ≤ t → t < ns → rd g0 (33 + k) t = cw k t) : ∀ (k : Nat) (i a : Int) (g : Mem), i + k = m → 0 ≤ i → FC g0 g → 0 ≤ a → a ≤ i * 1000000 → AnC (frG g0 1 18 19 (a + su (fun t => mnV cw f ns s (v + t)) k i) m) (1, 0) (EI X (d + 40) 178 70 [some (.inr (.inr 1)), some (.inl v), some (.inl m), some (.inr (.inl a)), none, some (.inl i)] [] S0 (ov g)) := by
  have hb := isD19
  have hd : isD 40 := Or.inr (Or.inl rfl)
  have hl : isL 142 := Or.inr rfl
  have hN0 : 0 ≤ N := by have := Iv_aw hi; omega
  intro k
  induction k with
  | zero =>
    intro i a g hk i0 fc a0 a1
    rw [e_178_70, if_neg (show ¬ i < m by omega)]
    have e : MI X (d + 39) 186 [.inr (.inr 1), .inr (.inl a), .inr (.inl m)] S0 (ov g) = some (0, S0, ov (frG g 1 18 19 a m)) := c_186 a0 (by omega) (by omega) (by omega)
    rw [K_top, oC_of e, K_top, oC_of c_184, if_pos (Or.inr rfl), show su (fun t => mnV cw f ns s (v + t)) 0 i = 0 from rfl, Int.add_zero]
    exact Ok_some ⟨rfl, rd_wr_eq _ _ _ _, FC_tr (FC_frG fc _ _) (FC_st _ _)⟩
  | succ k ih =>
    intro i a g hk i0 fc a0 a1
    have k0 : ∀ c j, 19 ≤ c → c ≤ 39 → 0 ≤ j → rd g c j = rd g0 c j := fun c j x y z => fc c j (by omega) z (by unfold ScC; omega) (by omega)
    have rg : RD g 19 s := RD_fr r0 (fun c j x y => by
      by_cases z : 0 ≤ j
      · exact k0 c j x (by omega) z
      · have := k0 c 0 x (by omega) (by omega)
        rw [show rd g c j = rd g c 0 by unfold rd; rw [show j.toNat = (0 : Int).toNat by omega], show rd g0 c j = rd g0 c 0 by unfold rd; rw [show j.toNat = (0 : Int).toNat by omega]]
        exact this)
    rw [e_178_70, if_pos (show i < m by omega)]
    simp only [↓G_top, ↓K_daw hd]
    have g32 : rd g (19 + 13) 0 = 1 := (k0 32 0 (by omega) (by omega) (by omega)).trans t0
    have g321 : rd g (19 + 13) 1 = ns := (k0 32 1 (by omega) (by omega) (by omega)).trans hns
    refine Ok_bind (c_19 (d := d + 38) hd hb (by omega) (Or.inr g32) (by rw [g321]; exact n0) (by rw [g321]; exact n30)) ?_
    rintro v2 g2 ⟨p1, p2⟩
    simp only [↓G_top, ↓K_liv hl]
    have h8 := hi.2.1
    have h6 := hi.2.2.2.1
    have r2 : RD g2 40 s := RD_TK rg p1 h8 h6
    obtain ⟨-, -, -, q3, q4⟩ := p1
    have ns2 : rd g2 (40 + 13) 1 = ns := q3.trans g321
    have cg : ∀ c t, 0 ≤ c → c ≤ 6 → 0 ≤ t → t < ns → rd g2 (40 + 14 + c) t = cw c t := fun c t x y z w => by
      rw [show (40 : Int) + 14 + c = 40 + (14 + c) by omega, q4 (14 + c) t (by omega) (by omega) z (by rw [g321]; exact w), k0 _ _ (by omega) (by omega) z, show (19 : Int) + (14 + c) = 33 + c by omega]
      exact hc c t x y z w
    have hB2 : Blk (s 0) (s 1) (cwG g2 40) R f 0 0 ns 0 nr := Blk_congr (Int.le_refl _) f 0 0 ns 0 nr (fun c t x y z w => cg c t x y z w) (fun _ _ _ _ _ _ => rfl) hB
    rw [w32_id (x := v + i) (by omega) (by omega)]
    refine Ok_bind (c_68 (d := d + 27) hd hl hN r2 hi (v := v + i) (by omega) (by omega) ns2 n30 f hB2 (fun _ _ _ _ _ _ => rfl)) ?_
    rintro v3 g3 ⟨b1, b2, b3, b4⟩
    rw [wk_cg f 0 0 ns 0 nr hB (fun c t x y z w => cg c t x y z w)] at b1 b3
    have i3 := b3.1
    have l3 := b3.2.2.2.1
    have aw := Iv_aw i3
    have e39 := c_39 (X := X) (d := d + 37) hd b1 i3 (by omega)
    simp only [↓G_top, ↓K_daw hd]
    rw [oC_of e39]
    have mv : awN (wk cw f 0 ns (s, c0L (v + i))).2.1 = mnV cw f ns s (v + i) := rfl
    rw [mv] at aw ⊢
    rw [w64_id (x := a + mnV cw f ns s (v + i)) (by omega) (by omega), w32_id (x := i + 1) (by omega) (by omega)]
    have fc3 : FC g0 g3 := fun c j x y z w => (b4 c j x y (by unfold ScC at z; omega) (by unfold ScC at z; omega) (by unfold ScC at z; omega) (by unfold ScC at z; omega) (by unfold ScC at z; omega) (by unfold ScC at z; omega)).trans ((p2 c j x y (by unfold ScC at z; omega)).trans (fc c j x y z w))
    have q := ih (i + 1) (a + mnV cw f ns s (v + i)) g3 (by omega) (by omega) fc3 (by omega) (by omega)
    have es : a + su (fun t => mnV cw f ns s (v + t)) (k + 1) i = a + mnV cw f ns s (v + i) + su (fun t => mnV cw f ns s (v + t)) k (i + 1) := by
      show a + (mnV cw f ns s (v + i) + su (fun t => mnV cw f ns s (v + t)) k (i + 1)) = _
      omega
    rw [es]
    exact q
theorem m_334_l {cw R : Int → Int → Int} (hN : N + 300 < 800000) (hi : Iv N s) {v m ns nr : Int} (v0 : 0 ≤ v) (v1 : v + m - 1 ≤ 9999) (m1 : 1 ≤ m) (m20 : m ≤ 20) (h11 : s 11 = nr) (n60 : nr ≤ 60) (f : Nat) (hB : Blk (s 0) (s 1) cw R f 0 0 ns 0 nr) {g0 : Mem} (r0 : RM g0 s) (hR : Rw g0 R) : ∀ (k : Nat) (i a : Int) (g : Mem), i + k = m → 0 ≤ i → FN g0 g → (∀ j, 0 ≤ j → j < 104 → rd g 144 (2360 + j) = s j) → 0 ≤ a → a ≤ i * 1000000 → AnM (frG g0 143 3 4 (a + su (fun t => mnV cw f ns s (v + t)) k i) m) (1, 0) (EI X (d + 40) 334 71 [some (.inr (.inr 143)), some (.inl v), some (.inl m), some (.inr (.inl a)), none, some (.inl i)] [] S0 (ov g)) := by
  have hN0 : 0 ≤ N := by have := Iv_aw hi; omega
  intro k
  induction k with
  | zero =>
    intro i a g hk i0 fn sv a0 a1
    rw [e_334_71, if_neg (show ¬ i < m by omega)]
    have e : MI X (d + 39) 204 [.inr (.inr 143), .inr (.inl a), .inr (.inl m)] S0 (ov g) = some (1, S0, ov (wr (frG g 143 3 4 a m) 143 2 0)) := m_204 a0 (by omega) (by omega) (by omega)
    rw [K_mod, oC_of e, if_pos (Or.inr rfl), show su (fun t => mnV cw f ns s (v + t)) 0 i = 0 from rfl, Int.add_zero]
    exact Ok_some ⟨rfl, rd_wr_eq _ _ _ _, FN_tr (FN_frG fn _ _) (FN_st _ _)⟩
  | succ k ih =>
    intro i a g hk i0 fn sv a0 a1
    have rg : RM g s := fun j x y => by rw [fn _ _ (by omega) x (by unfold ScM; omega) (by omega)]; exact r0 j x y
    have Rg : Rw g R := fun r j x y z w => by rw [fn _ _ (by omega) (by omega) (by unfold ScM; omega) (by omega)]; exact hR r j x y z w
    rw [e_334_71, if_pos (show i < m by omega), K_mod, w32_id (x := v + i) (by omega) (by omega)]
    refine Ok_bind (m_331 (d := d + 29) (v := v + i) hN rg hi (by omega) (by omega) h11 n60 f hB Rg) ?_
    rintro v2 g2 ⟨q1, q2, q3, q4, q5⟩
    have i3 := q3.1
    have l3 := q3.2.2.2.1
    have aw := Iv_aw i3
    rw [K_mod, oC_of (m_260 (d := d + 36) q1 i3 (by omega)), K_mod]
    refine Ok_bind (m_292 (d := d + 39) g2 2360 (by omega) (by omega)) ?_
    rintro v3 g3 ⟨p1, p2⟩
    have mv : awN (wk cw f 0 ns (s, c0L (v + i))).2.1 = mnV cw f ns s (v + i) := rfl
    rw [mv] at aw ⊢
    rw [w64_id (x := a + mnV cw f ns s (v + i)) (by omega) (by omega), w32_id (x := i + 1) (by omega) (by omega)]
    have sv3 : ∀ j, 0 ≤ j → j < 104 → rd g3 144 (2360 + j) = s j := fun j x y => by
      rw [p2 _ _ (by omega) (by omega) (by omega), q5 _ _ (by omega) (by omega) (by omega) (by omega) (by omega) (by omega)]
      exact sv j x y
    have fn3 : FN g0 g3 := fun c j x y z w => by
      by_cases h : c = 144 ∧ j < 104
      · obtain ⟨rfl, h⟩ := h
        rw [p1 j y h, q5 _ _ (by omega) (by omega) (by omega) (by omega) (by omega) (by omega), sv j y h]
        exact (r0 j y h).symm
      · rw [p2 c j x y (by omega), q5 c j x y (by omega) (by unfold ScM at z; omega) (by unfold ScM at z; omega) (by unfold ScM at z; omega)]
        exact fn c j x y z w
    have q := ih (i + 1) (a + mnV cw f ns s (v + i)) g3 (by omega) (by omega) fn3 sv3 (by omega) (by omega)
    have es : a + su (fun t => mnV cw f ns s (v + t)) (k + 1) i = a + mnV cw f ns s (v + i) + su (fun t => mnV cw f ns s (v + t)) k (i + 1) := by
      show a + (mnV cw f ns s (v + i) + su (fun t => mnV cw f ns s (v + t)) k (i + 1)) = _
      omega
    rw [es]
    exact q
theorem p_mean (iv : IV N g) (hN : N + 300 < 800000) (v m : Int) (hv : -2147483648 ≤ v) (hv2 : v < 2147483648) (hm : -2147483648 ≤ m) (hm2 : m < 2147483648) : Pr (IV N) (MI X (d + 40) 178 [.inr (.inr 1), .inl v, .inl m] S0 (ov g)) (fun g1 => MI X (d + 40) 334 [.inr (.inr 143), .inl v, .inl m] S0 (ov g1)) := by
  obtain ⟨s, hs⟩ := iv.1
  have rm := DS_RM hs
  have hb := isD19
  by_cases h1 : 0 ≤ v ∧ v ≤ 9999
  case neg =>
    refine Pr_ask (q := (0, 1)) iv (Int.le_refl _) ?_ (fun g1 f => ?_)
    · rw [e_178]
      by_cases z : v < 0
      · rw [if_pos z, K_top]; exact AnC_deny (FC_rf g) 1
      · rw [if_neg z, if_pos (show 9999 < v by omega), K_top]; exact AnC_deny (FC_rf g) 1
    · rw [e_334, oC_of (m_212 _ _ _ _ _), if_b2i, if_neg h1, K_mod]
      exact AnM_not (FN_rf g1) (by omega)
  by_cases h2 : 1 ≤ m ∧ m ≤ 20
  case neg =>
    refine Pr_ask (q := (0, 1)) iv (Int.le_refl _) ?_ (fun g1 f => ?_)
    · rw [e_178, if_neg (show ¬ v < 0 by omega), if_neg (show ¬ 9999 < v by omega)]
      by_cases z : m < 1
      · rw [if_pos z, K_top]; exact AnC_deny (FC_rf g) 1
      · rw [if_neg z, if_pos (show 20 < m by omega), K_top]; exact AnC_deny (FC_rf g) 1
    · rw [e_334, oC_of (m_212 _ _ _ _ _), if_b2i, if_pos h1, oC_of (m_212 _ _ _ _ _), if_b2i, if_neg h2, K_mod]
      exact AnM_not (FN_rf g1) (by omega)
  have ew : w32 (w32 (v + m) - 1) = v + m - 1 := by rw [w32_id (x := v + m) (by omega) (by omega), w32_id (by omega) (by omega)]
  by_cases h3 : 9999 < v + m - 1
  · refine Pr_ask (q := (0, 1)) iv (Int.le_refl _) ?_ (fun g1 f => ?_)
    · rw [e_178, if_neg (show ¬ v < 0 by omega), if_neg (show ¬ 9999 < v by omega), if_neg (show ¬ m < 1 by omega), if_neg (show ¬ 20 < m by omega), ew, if_pos h3, K_top]
      exact AnC_deny (FC_rf g) 1
    · rw [e_334, oC_of (m_212 _ _ _ _ _), if_b2i, if_pos h1, oC_of (m_212 _ _ _ _ _), if_b2i, if_pos h2, ew, if_pos h3, K_mod]
      exact AnM_not (FN_rf g1) (by omega)
  obtain ⟨y0, y⟩ := hs.2.2.2.2
  rcases y with ⟨t0, e11⟩ | ⟨t1, l0, l60, f, hB⟩
  · have t0 : rd g 32 0 = 0 := t0
    refine Pr_ask (q := (0, 6)) iv (Int.le_refl _) ?_ (fun g1 fc => ?_)
    · rw [e_178, if_neg (show ¬ v < 0 by omega), if_neg (show ¬ 9999 < v by omega), if_neg (show ¬ m < 1 by omega), if_neg (show ¬ 20 < m by omega), ew, if_neg h3]
      simp only [↓G_top, ↓G_daw hb, ↓G_yrs hb, Int.reduceAdd, t0, ↓reduceIte, ↓K_top]
      exact AnC_deny (FC_rf g) 6
    · have e : rd g1 144 11 = -1 := (RM_FC rm fc 11 (by omega) (by omega)).trans e11
      rw [e_334, oC_of (m_212 _ _ _ _ _), if_b2i, if_pos h1, oC_of (m_212 _ _ _ _ _), if_b2i, if_pos h2, ew, if_neg h3]
      simp (disch := omega) only [↓G_mod, ↓al_144 _, e, ↓reduceIte, ↓K_mod]
      exact AnM_not (FN_rf g1) (by omega)
  have t1' : rd g 32 0 = 1 := t1
  generalize hns : rd g (19 + 13) 1 = ns at hB y0
  have hC : AnC (if True then frG g 1 18 19 (0 + su (fun t => mnV (cwG g 19) f ns s (v + t)) m.toNat 0) m else g) (1, 0) (MI X (d + 40) 178 [.inr (.inr 1), .inl v, .inl m] S0 (ov g)) := by
    rw [if_pos trivial, e_178, if_neg (show ¬ v < 0 by omega), if_neg (show ¬ 9999 < v by omega), if_neg (show ¬ m < 1 by omega), if_neg (show ¬ 20 < m by omega), ew, if_neg h3]
    simp only [↓G_top, ↓G_daw hb, ↓G_yrs hb, Int.reduceAdd, t1']
    rw [if_neg (by decide)]
    exact c_178_l hN hs.2.2.1 h1.1 (by omega) h2.1 h2.2 y0.1 y0.2 f hB hs.1 t1' hns (fun k t a b c e => rfl) m.toNat 0 0 g (by omega) (by omega) (FC_rf g) (by omega) (by omega)
  refine Pr_frac (p := True) iv hC (fun g1 hg => ?_)
  have rm1 : RM g1 s := fun i a b => (hg i a).trans (rm i a b)
  have rw1 : Rw g1 (rwG g 0) := fun r j x1 x2 x3 x4 => by
    rw [hg _ (by omega)]
    show rd g 144 (104 + 6 * r + j) = rd g 144 (472 * 0 + 104 + 6 * r + j)
    rw [show 472 * 0 + 104 + 6 * r + j = 104 + 6 * r + j by omega]
  have e : rd g1 144 11 = s 11 := rm1 11 (by omega) (by omega)
  rw [if_pos trivial, e_334, oC_of (m_212 _ _ _ _ _), if_b2i, if_pos h1, oC_of (m_212 _ _ _ _ _), if_b2i, if_pos h2, ew, if_neg h3, g_at, al_144 X g1 (by omega) (by omega), e, if_neg (show ¬ s 11 = -1 by omega), K_mod]
  refine Ok_bind (m_291 (d := d + 39) g1 2360 (by omega) (by omega)) ?_
  rintro v2 g2 ⟨p1, p2⟩
  exact m_334_l hN hs.2.2.1 h1.1 (by omega) h2.1 h2.2 rfl l60 f hB rm1 rw1 m.toNat 0 0 g2 (by omega) (by omega) (fun c i x y z w => p2 c i x y (by unfold ScM at z; omega)) (fun j x y => (p1 j x y).trans (rm1 j x y)) (by omega) (by omega)
end
