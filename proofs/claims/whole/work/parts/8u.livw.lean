/-! LIVING: the model's loop, block by block -/
/-- a state of the loop behind g0: loops outside lo .. hi as they were -/
def Sl (N n0 n1 nr lo hi : Int) (g0 g : Mem) (y : Sg) : Prop := RM g y.1 ∧ RN g y.2 ∧ WI N n0 n1 y ∧ y.1 11 = nr ∧ FV g0 g ∧ (∀ t, 0 ≤ t → (t < lo ∨ hi ≤ t) → rd g 160 t = rd g0 160 t)
def Rw (g : Mem) (R : Int → Int → Int) : Prop := ∀ r j, 0 ≤ r → r < 60 → 0 ≤ j → j < 6 → rd g 144 (104 + 6 * r + j) = R r j
theorem Rw_FV {g g' : Mem} {R : Int → Int → Int} (h : Rw g R) (f : FV g g') : Rw g' R := fun r j a b e k => by
  rw [f _ _ (by omega) (by omega) (by omega) (by omega) (by omega) (by omega)]
  exact h r j a b e k
theorem Sl_tr {N n0 n1 nr lo hi lo2 hi2 : Int} {g0 g1 g2 : Mem} {y z : Sg} (h1 : Sl N n0 n1 nr lo hi g0 g1 y) (h2 : Sl N n0 n1 nr lo2 hi2 g1 g2 z) (a : lo ≤ lo2) (b : hi2 ≤ hi) : Sl N n0 n1 nr lo hi g0 g2 z := ⟨h2.1, h2.2.1, h2.2.2.1, h2.2.2.2.1, FV_tr h1.2.2.2.2.1 h2.2.2.2.2.1, fun t t0 h => (h2.2.2.2.2.2 t t0 (by omega)).trans (h1.2.2.2.2.2 t t0 h)⟩
section
variable {X : Xs} {d : Nat} {N n0 n1 nr : Int} {cw R : Int → Int → Int}
theorem zz_1 {g : Mem} {k o l : Int} (h11 : rd g 144 11 = nr) (hn : nr ≤ 60) (k0 : 0 ≤ k) (k1 : k < nr) (h : rd g 144 (104 + 6 * k) = 21) (h4 : rd g 144 (104 + 6 * k + 4) = o) (o0 : 0 ≤ o) (o1 : o < 60) (hl : rd g 144 (104 + 6 * o) = 20) (hv : rd g 160 o = l) (l0 : 0 < l) (l1 : l ≤ 99) : zz X d k g = zz X d (o + 1) (wr g 160 o (l - 1)) := by
  unfold zz
  rw [m_330_1 h11 hn k0 k1 h h4 o0 o1 hl hv l0 l1]
theorem zz_0 {g : Mem} {k o : Int} (h11 : rd g 144 11 = nr) (hn : nr ≤ 60) (k0 : 0 ≤ k) (k1 : k < nr) (h : rd g 144 (104 + 6 * k) = 21) (h4 : rd g 144 (104 + 6 * k + 4) = o) (o0 : 0 ≤ o) (o1 : o < 60) (hl : rd g 144 (104 + 6 * o) ≠ 20 ∨ rd g 160 o = 0) : ∃ x, zz X d k g = zz X d (k + 1) (wr g 160 o x) := by
  obtain ⟨x, e⟩ := m_330_0 (X := X) (d := d + 9) h11 hn k0 k1 h h4 o0 o1 hl
  exact ⟨x, by unfold zz; rw [e]⟩
theorem Sl_160 {lo hi : Int} {g0 g : Mem} {y : Sg} (h : Sl N n0 n1 nr lo hi g0 g y) {i : Int} (x : Int) (i0 : 0 ≤ i) (a : lo ≤ i) (b : i < hi) : Sl N n0 n1 nr lo hi g0 (wr g 160 i x) y := by
  obtain ⟨h1, h2, h3, h4, h5, h6⟩ := h
  exact ⟨RM_wo h1 _ _ (by omega) (by omega), RN_160 _ h2 _ _, h3, h4, FV_tr h5 (FV_wr _ _ _ (Or.inl rfl)), fun t t0 h => by rw [rd_wr_ix _ _ i0 t0 (by omega)]; exact h6 t t0 h⟩
theorem m_walk (hN : N + 300 < 800000) (hn : nr ≤ 60) : ∀ (f : Nat) (D i j p q : Int), Blk n0 n1 cw R f D i j p q → 0 ≤ p → q ≤ nr → ∀ (P : Int → Mem → Prop) (g : Mem) (x : Sg), RM g x.1 → RN g x.2 → WI N n0 n1 x → x.1 11 = nr → Rw g R →
    (∀ g', Sl N n0 n1 nr p q g g' (wk cw f i j x).2 → if (wk cw f i j x).1 = true then Ok P (zz X d q g') else P 0 g') → Ok P (zz X d p g) := by
  intro f
  induction f with
  | zero =>
    intro D i j p q hB p0 q1 P g x h1 h2 h3 h4 h5 K
    obtain ⟨-, hpq⟩ := hB
    have : Ok P (zz X d q g) := K g ⟨h1, h2, h3, h4, FV_rf g, fun _ _ _ => rfl⟩
    rw [hpq]
    exact this
  | succ f ih =>
    intro D i j p q hB p0 q1 P g x h1 h2 h3 h4 h5 K
    have a11 : rd g 144 11 = nr := (h1 11 (by omega) (by omega)).trans h4
    by_cases hij : i < j
    case neg =>
      have hpq : p = q := by
        rcases hB with ⟨h, h'⟩ | ⟨b1, b2, b3⟩ | ⟨b1, b2, b3, p', b4, b5, b6, b7, b8⟩
        · exact h'
        · have := Blk_le _ _ _ _ _ _ b3; omega
        · have := Blk_le _ _ _ _ _ _ b7
          have := Blk_le _ _ _ _ _ _ b8
          omega
      rw [wk_s, if_neg hij] at K
      have := K g ⟨h1, h2, h3, h4, FV_rf g, fun _ _ _ => rfl⟩
      rw [if_pos rfl] at this
      rw [hpq]
      exact this
    rw [wk_s, if_pos hij] at K
    obtain ⟨a1, a2, a3, a4, a5, a6⟩ := id h3
    rcases hB with ⟨h, -⟩ | ⟨b1, b2, b3⟩ | ⟨b1, b2, b3, p', b4, b5, b6, b7, b8⟩
    · omega
    · -- a row without a block
      have ll := Blk_le _ _ _ _ _ _ b3
      have e0 : rd g 144 (104 + 6 * p) = R p 0 := by have := h5 p 0 p0 (by omega) (by omega) (by omega); rw [Int.add_zero] at this; exact this
      have n21 : R p 0 ≠ 21 := by
        rcases b2 with b2 | b2
        · omega
        · have := b2.2.1; have := b2.1.1; have := b2.1.2.1; omega
      rw [zz_n a11 hn p0 (Or.inr (by rw [e0]; exact n21))]
      by_cases h300 : 300 ≤ x.2 3
      · rw [if_pos h300] at K
        rw [m_331_300 a11 hn p0 (by omega) h2 (by omega)]
        have : P 0 (wr g 161 4 1) := K (wr g 161 4 1) ⟨RM_wo h1 _ _ (by omega) (by omega), ?_, WI_8 h3, h4, FV_wr _ _ _ (Or.inr rfl), fun t t0 _ => rd_wr_ne _ _ _ _ (by omega) (by omega) (by omega)⟩
        · exact Ok_some this
        · unfold RN at h2 ⊢
          simp (disch := omega) only [us_eq, us_ne, rd_wr_eq, rd_wr_ne, rd_wr_ix]
          simp only [h2, and_self]
      rw [if_neg h300] at K
      by_cases h25 : cw 0 i = 25
      · rw [if_pos h25] at K
        have hw : rd g 144 (104 + 6 * p) = 22 := by
          rcases b2 with b2 | b2
          · rw [e0]; exact b2.2
          · omega
        rw [m_331_22 a11 hn p0 (by omega) h2 a3 (by omega) hw]
        have : P 0 (wr g 143 34 (x.2 3 + 1)) := K (wr g 143 34 (x.2 3 + 1)) ⟨RM_wo h1 _ _ (by omega) (by omega), RN_st _ h2 _, WI_up h3 (by omega), h4, FV_143 _ _ (Or.inr rfl), fun t t0 _ => rd_wr_ne _ _ _ _ (by omega) (by omega) (by omega)⟩
        exact Ok_some this
      rw [if_neg h25] at K
      obtain ⟨ok, ms⟩ : okI n1 (cw 0 i) (cw 3 i) (cw 4 i) (cw 5 i) ∧ mS (R p) (cw 0 i) (cw 3 i) (cw 4 i) (cw 5 i) := by
        rcases b2 with b2 | b2
        · exact absurd b2.1 h25
        · exact b2
      have nw : ¬ (cw 0 i = 23 ∨ cw 0 i = 19) := by omega
      rw [if_neg nw] at K
      have ok' : okS x.1 (cw 0 i) (cw 3 i) (cw 4 i) (cw 5 i) := ⟨ok.1, ok.2.1, by rw [a6]; exact ok.2.2.1, by rw [a6]; exact ok.2.2.2⟩
      obtain ⟨g1, e, q1', q2, q3, q4⟩ := m_331_s (X := X) (d := d) h1 a1 (by omega) h4 hn p0 (by omega) h2 a2 a3 (by omega) (R := R p) (fun k a b => h5 p k p0 (by omega) a b) ok' ms
      rw [e]
      have w1 := WI_st h3 hN (by omega) ok
      have k11 := (do_11 (c := us x.2 3 (x.2 3 + 1)) a1 ok').trans h4
      refine ih D (i + 1) j (p + 1) q b3 (by omega) q1 P g1 (_, _) q1' q2 w1 k11 (Rw_FV h5 q3) (fun g' hs => K g' ?_)
      have s1 : Sl N n0 n1 nr p q g g1 (doS x.1 (us x.2 3 (x.2 3 + 1)) (cw 0 i) (cw 3 i) (cw 4 i) (cw 5 i), doC x.1 (us x.2 3 (x.2 3 + 1)) (cw 0 i) (cw 3 i) (cw 4 i) (cw 5 i)) := ⟨q1', q2, w1, k11, q3, fun t t0 _ => q4 t t0⟩
      exact Sl_tr s1 hs (by omega) (by omega)
    · -- a block
      have l7 := Blk_le _ _ _ _ _ _ b7
      have l8 := Blk_le _ _ _ _ _ _ b8
      have e0 : rd g 144 (104 + 6 * p) = R p 0 := by have := h5 p 0 p0 (by omega) (by omega) (by omega); rw [Int.add_zero] at this; exact this
      have w0 : (cw 0 i = 23 ∧ R p 0 = 20) ∨ (cw 0 i = 19 ∧ 1900 ≤ R p 0) := by
        rcases b2 with ⟨w, -⟩ | ⟨w, t⟩
        · exact Or.inl ⟨w, (b3.1 w).1⟩
        · obtain ⟨x1, x2, x3, x4⟩ := b3.2 w
          refine Or.inr ⟨w, ?_⟩
          rcases t with t | ⟨t, -⟩ | ⟨t, -⟩ | t
          · rw [(x1 t).1]; omega
          · rw [(x2 t).1]; omega
          · rw [(x3 t).1]; omega
          · rw [x4 t]; omega
      rw [zz_n a11 hn p0 (Or.inr (by rw [e0]; omega))]
      by_cases h300 : 300 ≤ x.2 3
      · rw [if_pos h300] at K
        rw [m_331_300 a11 hn p0 (by omega) h2 (by omega)]
        have : P 0 (wr g 161 4 1) := K (wr g 161 4 1) ⟨RM_wo h1 _ _ (by omega) (by omega), ?_, WI_8 h3, h4, FV_wr _ _ _ (Or.inr rfl), fun t t0 _ => rd_wr_ne _ _ _ _ (by omega) (by omega) (by omega)⟩
        · exact Ok_some this
        · unfold RN at h2 ⊢
          simp (disch := omega) only [us_eq, us_ne, rd_wr_eq, rd_wr_ne, rd_wr_ix]
          simp only [h2, and_self]
      rw [if_neg h300, if_neg (show ¬ cw 0 i = 25 by omega), if_pos (show cw 0 i = 23 ∨ cw 0 i = 19 by omega)] at K
      obtain ⟨g1, e, q1', q2, q3, q4, q5⟩ := m_331_o (X := X) (d := d) h1 a1 h4 hn p0 (by omega) h2 a2 a3 (by omega) (R := R p) (fun k a b => h5 p k p0 (by omega) a b) (W := cw 0 i) (T := cw 1 i) (C := cw 2 i) (A := cw 3 i) (Z := cw 5 i) (by rw [a5, a6]; exact b2) b3 (by omega) (by omega)
      rw [e]
      have w1 := WI_up h3 (show x.2 3 < 300 by omega)
      have s1 : Sl N n0 n1 nr p q g g1 (x.1, us x.2 3 (x.2 3 + 1)) := ⟨q1', q2, w1, h4, q3, fun t t0 h => q4 t t0 (by omega)⟩
      have r1 := Rw_FV h5 q3
      -- behind the block
      have tail : ∀ (r : Bool × Sg) (g2 : Mem), Sl N n0 n1 nr p q g g2 r.2 → (∀ g', Sl N n0 n1 nr p q g g' (if r.1 = true then wk cw f (cw 6 i) j r.2 else r).2 → if (if r.1 = true then wk cw f (cw 6 i) j r.2 else r).1 = true then Ok P (zz X d q g') else P 0 g') → if r.1 = true then Ok P (zz X d (p' + 1) g2) else P 0 g2 := fun r g2 hs hk => by
        by_cases z : r.1 = true
        · rw [if_pos z] at hk ⊢
          obtain ⟨s1', s2, s3, s4, s5, s6⟩ := id hs
          exact ih D (cw 6 i) j (p' + 1) q b8 (by omega) q1 P g2 r.2 s1' s2 s3 s4 (Rw_FV h5 s5) (fun g' hs' => hk g' (Sl_tr hs hs' (by omega) (by omega)))
        · have := hk g2
          rw [if_neg z] at this ⊢
          have := this hs
          rw [if_neg z] at this
          exact this
      -- the body, once
      have body : ∀ (g2 : Mem) (y : Sg), Sl N n0 n1 nr p q g g2 y → (∀ g', Sl N n0 n1 nr p q g g' (wk cw f (i + 1) (cw 6 i) y).2 → rd g' 160 p = rd g2 160 p → if (wk cw f (i + 1) (cw 6 i) y).1 = true then Ok P (zz X d p' g') else P 0 g') → Ok P (zz X d (p + 1) g2) := fun g2 y hs hk => by
        obtain ⟨s1', s2, s3, s4, s5, s6⟩ := id hs
        exact ih (D + 1) (i + 1) (cw 6 i) (p + 1) p' b7 (by omega) (by omega) P g2 y s1' s2 s3 s4 (Rw_FV h5 s5) (fun g' hs' => hk g' (Sl_tr hs hs' (by omega) (by omega)) (hs'.2.2.2.2.2 p p0 (by omega)))
      have c0 : ∀ g2 y, Sl N n0 n1 nr p q g g2 y → rd g2 144 11 = nr ∧ rd g2 144 (104 + 6 * p') = 21 ∧ rd g2 144 (104 + 6 * p' + 4) = p ∧ rd g2 144 (104 + 6 * p) = R p 0 := fun g2 y hs => by
        obtain ⟨s1', s2, s3, s4, s5, s6⟩ := id hs
        have rr := Rw_FV h5 s5
        have k0 := rr p' 0 (by omega) (by omega) (by omega) (by omega)
        have k4 := rr p' 4 (by omega) (by omega) (by omega) (by omega)
        have k1 := rr p 0 (by omega) (by omega) (by omega) (by omega)
        rw [Int.add_zero] at k0 k1
        exact ⟨(s1' 11 (by omega) (by omega)).trans s4, k0.trans b5, k4.trans b6, k1⟩
      rcases w0 with ⟨w, w20⟩ | ⟨w, w19⟩
      · -- loop
        have z1 : 1 ≤ cw 5 i ∧ cw 5 i ≤ 99 := by rcases b2 with b2 | b2 <;> omega
        have hT : wkT x.1 (cw 0 i) (cw 1 i) (cw 2 i) (cw 3 i) (cw 5 i) = (cw 5 i - 1).toNat + 1 := by unfold wkT; rw [if_pos w]; omega
        rw [if_pos (Or.inl w)]
        have lp : ∀ (t : Nat) (g2 : Mem) (y : Sg), (t : Int) ≤ 98 → rd g2 160 p = t → Sl N n0 n1 nr p q g g2 y → (∀ g', Sl N n0 n1 nr p q g g' (wkI (wk cw f (i + 1) (cw 6 i)) (t + 1) y).2 → if (wkI (wk cw f (i + 1) (cw 6 i)) (t + 1) y).1 = true then Ok P (zz X d (p' + 1) g') else P 0 g') → Ok P (zz X d (p + 1) g2) := by
          intro t
          induction t with
          | zero =>
            intro g2 y ht hl hs hk
            rw [wkI_s] at hk
            refine body g2 y hs (fun g' hs' e160 => ?_)
            by_cases z : (wk cw f (i + 1) (cw 6 i) y).1 = true
            · rw [if_pos z] at hk ⊢
              obtain ⟨k1, k2, k3, k4⟩ := c0 g' _ hs'
              obtain ⟨v, ez⟩ := zz_0 (X := X) (d := d) k1 hn (show 0 ≤ p' by omega) (by omega) k2 k3 p0 (by omega) (Or.inr (by rw [e160, hl]; rfl))
              rw [ez]
              have hh := hk (wr g' 160 p v) (Sl_160 hs' v p0 (by omega) (by omega))
              rw [show (wkI (wk cw f (i + 1) (cw 6 i)) 0 (wk cw f (i + 1) (cw 6 i) y).2).1 = true from rfl, if_pos rfl] at hh
              exact hh
            · have hh := hk g'
              rw [if_neg z] at hh ⊢
              have hh := hh hs'
              rw [if_neg z] at hh
              exact hh
          | succ t iht =>
            intro g2 y ht hl hs hk
            rw [wkI_s] at hk
            refine body g2 y hs (fun g' hs' e160 => ?_)
            by_cases z : (wk cw f (i + 1) (cw 6 i) y).1 = true
            · rw [if_pos z] at hk ⊢
              obtain ⟨k1, k2, k3, k4⟩ := c0 g' _ hs'
              rw [zz_1 (X := X) (d := d) k1 hn (show 0 ≤ p' by omega) (by omega) k2 k3 p0 (by omega) (by rw [k4]; exact w20) (l := ((t + 1 : Nat) : Int)) (by rw [e160, hl]) (by omega) (by omega)]
              exact iht _ _ (by omega) (by rw [rd_wr_eq]; omega) (Sl_160 hs' _ p0 (by omega) (by omega)) hk
            · have hh := hk g'
              rw [if_neg z] at hh ⊢
              have hh := hh hs'
              rw [if_neg z] at hh
              exact hh
        rw [hT] at K
        exact lp (cw 5 i - 1).toNat g1 (x.1, us x.2 3 (x.2 3 + 1)) (by omega) (by rw [q5 w]; omega) s1 (fun g' hs' => tail _ g' hs' K)
      · -- when
        have n23 : ¬ cw 0 i = 23 := by omega
        by_cases hb : tsB x.1 (cw 1 i) (cw 2 i) (cw 3 i) (cw 5 i) = true
        · have hT : wkT x.1 (cw 0 i) (cw 1 i) (cw 2 i) (cw 3 i) (cw 5 i) = 1 := by unfold wkT; rw [if_neg n23, if_pos hb]
          rw [if_pos (Or.inr hb)]
          rw [hT, wkI_s] at K
          refine body g1 _ s1 (fun g' hs' e160 => ?_)
          by_cases z : (wk cw f (i + 1) (cw 6 i) (x.1, us x.2 3 (x.2 3 + 1))).1 = true
          · rw [if_pos z] at K ⊢
            obtain ⟨k1, k2, k3, k4⟩ := c0 g' _ hs'
            obtain ⟨v, ez⟩ := zz_0 (X := X) (d := d) k1 hn (show 0 ≤ p' by omega) (by omega) k2 k3 p0 (by omega) (Or.inl (by rw [k4]; omega))
            rw [ez]
            have hh := tail (true, (wk cw f (i + 1) (cw 6 i) (x.1, us x.2 3 (x.2 3 + 1))).2) (wr g' 160 p v) (Sl_160 hs' v p0 (by omega) (by omega)) K
            rw [if_pos rfl] at hh
            exact hh
          · rw [if_neg z] at K ⊢
            have hh := tail _ g' hs' K
            rw [if_neg z] at hh
            exact hh
        · have hT : wkT x.1 (cw 0 i) (cw 1 i) (cw 2 i) (cw 3 i) (cw 5 i) = 0 := by unfold wkT; rw [if_neg n23, if_neg hb]
          rw [if_neg (show ¬ (cw 0 i = 23 ∨ tsB x.1 (cw 1 i) (cw 2 i) (cw 3 i) (cw 5 i) = true) from fun z => by rcases z with z | z; exact n23 z; exact hb z), b4]
          rw [hT] at K
          have hh := tail (true, (x.1, us x.2 3 (x.2 3 + 1))) g1 s1 K
          rw [if_pos rfl] at hh
          exact hh
end
