/-! arms of the model: a table over taken things -/
def F156 (g g' : Mem) : Prop := ∀ c i, 0 ≤ c → c ≠ 156 → rd g' c i = rd g c i
theorem F156_tr {g g1 g2 : Mem} (h1 : F156 g g1) (h2 : F156 g1 g2) : F156 g g2 := fun c i a e => (h2 c i a e).trans (h1 c i a e)
theorem F156_rf (g : Mem) : F156 g g := fun _ _ _ _ => rfl
theorem F156_wr (g : Mem) (i x : Int) : F156 g (wr g 156 i x) := fun c j a e => rd_wr_ne g i j x (by omega) a e
theorem RM_156 {g g1 : Mem} {s : Int → Int} (r : RM g s) (f : F156 g g1) : RM g1 s := fun i a b => (f 144 i (by omega) (by omega)).trans (r i a b)
theorem FN_156 {g g1 : Mem} (f : F156 g g1) : FN g g1 := fun c i a b e k => f c i a (fun z => e (by unfold ScM; omega))
abbrev ndf (s : Int → Int) (o : Int) : Int → Int → Int := fun m t => ndN s m o t
/-- the rows from j on -/
def Tq (s : Int → Int) (V o j : Int) (g : Mem) : Prop := ∀ m T, j ≤ m → m ≤ s 1 → 0 ≤ T → T < ((2 ^ (s 0).toNat : Nat) : Int) → rd g 156 (256 * m + T) = arF (ndf s o) V (s 0).toNat (s 1 - m).toNat m T
section
variable {X : Xs} {d : Nat} {g : Mem} {s : Int → Int} {N : Int}
theorem m_308_l (r : RM g s) (hi : Iv N s) (V o : Int) (h3 : 0 ≤ o) (h4 : o < s 1) (k : Nat) (m T : Int) (hm : m + k + 1 = s 1) (m0 : 0 ≤ m) (T0 : 0 ≤ T) (T1 : T < ((2 ^ (s 0).toNat : Nat) : Int)) (tq : Tq s V o (m + 1) g) : ∀ (k2 : Nat) (t a : Int), t + k2 = s 0 → 0 ≤ t → EI X (d + 4) 308 32 [some (.inr (.inr 143)), some (.inl m), some (.inl T), none, some (.inl o), some (.inl a), some (.inl t)] [] S0 (ov g) = some (mnF T (arG (ndf s o) V (s 0).toNat k m T) k2 t a, S0, ov g) := by
  have i0 := hi.1
  have i1 := hi.2.1
  have i3 := hi.2.2.2.1
  have a0 : rd g 144 0 = s 0 := r 0 (by omega) (by omega)
  have p8 := pow_256 (n := (s 0).toNat) (by omega)
  intro k2
  induction k2 with
  | zero =>
    intro t a hk t0
    rw [e_308_32]
    simp (disch := omega) only [↓K_mod, ↓G_mod, ↓al_144 _, a0]
    rw [if_neg (show ¬ t < s 0 by omega)]
    rfl
  | succ k2 ih =>
    intro t a hk t0
    have b01 := bi_01 T t
    rw [e_308_32]
    simp (disch := omega) only [↓K_mod, ↓G_mod, ↓al_144 _, a0, ↓oC_of (m_250 _ _ _ _), ↓if_b2i]
    rw [if_pos (show t < s 0 by omega), mnF_s, w32_id (x := t + 1) (by omega) (by omega)]
    by_cases hb : bi T t = 1
    · rw [if_pos hb, if_pos hb]
      exact ih _ _ (by omega) (by omega)
    · have n := ndN_r hi (m := m) h3 h4 t
      have ob := oI_b (T := T) (t := t) (K := (s 0).toNat) (by omega) T0 T1 t0 (by omega)
      have ar := arF_b (nd := ndf s o) (fun m t => ndN_r hi h3 h4 t) V (s 0).toNat k (by omega) (m + 1) (oI T t)
      have q := m_300 (X := X) (d := d) r hi m o t m0 (by omega) h3 h4 (by omega) (by omega)
      have z := tq (m + 1) (oI T t) (by omega) (by omega) ob.1 ob.2
      have on : 0 ≤ orF (ndN s m o t) ∧ orF (ndN s m o t) ≤ 1000000 := by unfold orF; split <;> omega
      rw [show asM t = t from if_neg (by omega)] at q
      rw [show (s 1 - (m + 1)).toNat = k by omega] at z
      rw [if_neg hb, if_neg hb, oC_of q, show am_or T (am_shl 1 t) = oI T t from rfl, w32_id (x := m + 1) (by omega) (by omega), w32_id (x := 256 * (m + 1)) (by omega) (by omega), w32_id (x := 256 * (m + 1) + oI T t) (by omega) (by omega)]
      simp (disch := omega) only [↓G_mod, ↓al_156 _, z]
      rw [w32_id (by omega) (by omega)]
      exact ih _ _ (by omega) (by omega)
theorem m_308 (r : RM g s) (hi : Iv N s) (V o : Int) (h3 : 0 ≤ o) (h4 : o < s 1) (k : Nat) (m T : Int) (hm : m + k + 1 = s 1) (m0 : 0 ≤ m) (T0 : 0 ≤ T) (T1 : T < ((2 ^ (s 0).toNat : Nat) : Int)) (tq : Tq s V o (m + 1) g) : MI X (d + 4) 308 [.inr (.inr 143), .inl m, .inl T, .inl V, .inl o] S0 (ov g) = some (arF (ndf s o) V (s 0).toNat (k + 1) m T, S0, ov g) := by
  have i0 := hi.1
  have i1 := hi.2.1
  have i3 := hi.2.2.2.1
  have p8 := pow_256 (n := (s 0).toNat) (by omega)
  rw [e_308, arF_s]
  simp only [↓K_mod, ↓oC_of (m_250 _ _ _ _), ↓if_b2i]
  by_cases hb : bi V m = 1
  · rw [if_pos hb, if_pos hb]
    exact m_308_l r hi V o h3 h4 k m T hm m0 T0 T1 tq (s 0).toNat 0 1000000 (by omega) (by omega)
  · have z := tq (m + 1) T (by omega) (by omega) T0 T1
    rw [show (s 1 - (m + 1)).toNat = k by omega] at z
    rw [if_neg hb, if_neg hb, w32_id (x := m + 1) (by omega) (by omega), w32_id (x := 256 * (m + 1)) (by omega) (by omega), w32_id (x := 256 * (m + 1) + T) (by omega) (by omega)]
    simp (disch := omega) only [↓G_mod, ↓al_156 _, z]
theorem m_309_a (hi : Iv N s) (V o : Int) (P : Option Rs → Prop) : ∀ (k : Nat) (j : Int) (g1 : Mem), j + k = 256 → 0 ≤ j → (∀ T, 0 ≤ T → T < j → rd g1 156 (256 * s 1 + T) = 0) → (∀ g2, F156 g1 g2 → Tq s V o (s 1) g2 → P (EI X (d + 5) 309 43 [some (.inr (.inr 143)), some (.inl V), some (.inl o), none, some (.inl (s 1 - 1)), none] [] S0 (ov g2))) → P (EI X (d + 5) 309 10 [some (.inr (.inr 143)), some (.inl V), some (.inl o), some (.inl (s 1)), some (.inl j), none] [] S0 (ov g1)) := by
  have i0 := hi.1
  have i1 := hi.2.1
  have i2 := hi.2.2.1
  have i3 := hi.2.2.2.1
  have p8 := pow_256 (n := (s 0).toNat) (by omega)
  intro k
  induction k with
  | zero =>
    intro j g1 hk j0 z H
    rw [e_309_10, if_neg (show ¬ j < 256 by omega), w32_id (by omega) (by omega)]
    refine H g1 (F156_rf g1) (fun m T a b c e => ?_)
    have em : m = s 1 := by omega
    rw [em, z T c (by omega), Int.sub_self]
    rfl
  | succ k ih =>
    intro j g1 hk j0 z H
    rw [e_309_10, if_pos (show j < 256 by omega), w32_id (x := 256 * s 1) (by omega) (by omega), w32_id (x := 256 * s 1 + j) (by omega) (by omega), w32_id (x := j + 1) (by omega) (by omega)]
    simp (disch := omega) only [↓G_mod, ↓as_156]
    refine ih (j + 1) _ (by omega) (by omega) (fun T a b => ?_) (fun g2 f2 q2 => H g2 (F156_tr (F156_wr _ _ _) f2) q2)
    rw [rd_wr_if _ _ _ (by omega) (by omega)]
    by_cases e : 256 * s 1 + T = 256 * s 1 + j
    · rw [if_pos e]
    · rw [if_neg e]; exact z T a (by omega)
theorem m_309_b (hi : Iv N s) (V o : Int) (h3 : 0 ≤ o) (h4 : o < s 1) (k : Nat) (m : Int) (hm : m + k + 1 = s 1) (m0 : 0 ≤ m) (P : Option Rs → Prop) : ∀ (k2 : Nat) (T : Int) (g1 : Mem), T + k2 = ((2 ^ (s 0).toNat : Nat) : Int) → 0 ≤ T → RM g1 s → Tq s V o (m + 1) g1 → (∀ T', 0 ≤ T' → T' < T → rd g1 156 (256 * m + T') = arF (ndf s o) V (s 0).toNat (k + 1) m T') → (∀ g2, F156 g1 g2 → Tq s V o m g2 → P (EI X (d + 5) 309 43 [some (.inr (.inr 143)), some (.inl V), some (.inl o), none, some (.inl (m - 1)), none] [] S0 (ov g2))) → P (EI X (d + 5) 309 51 [some (.inr (.inr 143)), some (.inl V), some (.inl o), none, some (.inl m), some (.inl T)] [] S0 (ov g1)) := by
  have i0 := hi.1
  have i1 := hi.2.1
  have i3 := hi.2.2.2.1
  have p8 := pow_256 (n := (s 0).toNat) (by omega)
  intro k2
  induction k2 with
  | zero =>
    intro T g1 hk T0 r tq z H
    have a0 : rd g1 144 0 = s 0 := r 0 (by omega) (by omega)
    rw [e_309_51]
    simp (disch := omega) only [↓K_mod, ↓G_mod, ↓al_144 _, a0]
    rw [shl_p i0 i1, if_neg (by omega), show w32 (m + -1) = m - 1 from w32_id (by omega) (by omega)]
    refine H g1 (F156_rf g1) (fun m' T' a b c e => ?_)
    by_cases em : m' = m
    · rw [em, z T' c (by omega), show (s 1 - m).toNat = k + 1 by omega]
    · exact tq m' T' (by omega) b c e
  | succ k2 ih =>
    intro T g1 hk T0 r tq z H
    have a0 : rd g1 144 0 = s 0 := r 0 (by omega) (by omega)
    rw [e_309_51]
    simp (disch := omega) only [↓K_mod, ↓G_mod, ↓al_144 _, a0]
    rw [shl_p i0 i1, if_pos (by omega), oC_of (m_308 (d := d) r hi V o h3 h4 k m T hm m0 T0 (by omega) tq), w32_id (x := 256 * m) (by omega) (by omega), w32_id (x := 256 * m + T) (by omega) (by omega), w32_id (x := T + 1) (by omega) (by omega)]
    simp (disch := omega) only [↓G_mod, ↓as_156]
    have fw := F156_wr g1 (256 * m + T) (arF (ndf s o) V (s 0).toNat (k + 1) m T)
    refine ih (T + 1) _ (by omega) (by omega) (RM_156 r fw) (fun m' T' a b c e => ?_) (fun T' a b => ?_) (fun g2 f2 q2 => H g2 (F156_tr fw f2) q2)
    · rw [rd_wr_if _ _ _ (by omega) (by omega), if_neg (by omega)]
      exact tq m' T' a b c e
    · rw [rd_wr_if _ _ _ (by omega) (by omega)]
      by_cases e : T' = T
      · rw [if_pos (by omega), e]
      · rw [if_neg (by omega)]; exact z T' a (by omega)
theorem m_309_c (hi : Iv N s) (V o : Int) (h3 : 0 ≤ o) (h4 : o < s 1) : ∀ (j : Nat) (g1 : Mem), j ≤ s 1 → RM g1 s → Tq s V o j g1 → Ok (fun v g' => v = arN s V o ∧ F156 g1 g' ∧ Tq s V o 0 g') (EI X (d + 5) 309 43 [some (.inr (.inr 143)), some (.inl V), some (.inl o), none, some (.inl ((j : Int) - 1)), none] [] S0 (ov g1)) := by
  have i0 := hi.1
  have i1 := hi.2.1
  have i3 := hi.2.2.2.1
  have p8 : 0 < 2 ^ (s 0).toNat := Nat.two_pow_pos _
  intro j
  induction j with
  | zero =>
    intro g1 hj r tq
    rw [e_309_43, if_pos (by omega)]
    have z := tq 0 0 (by omega) (by omega) (by omega) (by omega)
    rw [show (256 * 0 + 0 : Int) = 0 from rfl] at z
    simp (disch := omega) only [↓G_mod, ↓al_156 _, z]
    refine Ok_some ⟨?_, F156_rf g1, tq⟩
    rw [Int.sub_zero]
    rfl
  | succ j ih =>
    intro g1 hj r tq
    rw [e_309_43, if_neg (by omega), show ((j + 1 : Nat) : Int) - 1 = (j : Int) by omega]
    refine m_309_b hi V o h3 h4 (s 1 - (j + 1)).toNat (j : Int) (by omega) (by omega) _ (2 ^ (s 0).toNat) 0 g1 (by omega) (by omega) r (by rw [show ((j : Int) + 1) = ((j + 1 : Nat) : Int) by omega]; exact tq) (fun T' a b => by omega) (fun g2 f2 q2 => ?_)
    refine Ok_mono (ih g2 (by omega) (RM_156 r f2) q2) ?_
    rintro v g3 ⟨p1, p2, p3⟩
    exact ⟨p1, F156_tr f2 p2, p3⟩
theorem m_309 (r : RM g s) (hi : Iv N s) (V o : Int) (h3 : 0 ≤ o) (h4 : o < s 1) : Ok (fun v g' => v = arN s V o ∧ F156 g g' ∧ Tq s V o 0 g') (MI X (d + 5) 309 [.inr (.inr 143), .inl V, .inl o] S0 (ov g)) := by
  have i2 := hi.2.2.1
  have a1 : rd g 144 1 = s 1 := r 1 (by omega) (by omega)
  rw [e_309]
  simp (disch := omega) only [↓K_mod, ↓G_mod, ↓al_144 _, a1]
  refine m_309_a (d := d) hi V o (fun p => Ok _ p) 256 0 g (by omega) (by omega) (fun T a b => by omega) (fun g2 f2 q2 => ?_)
  have q := m_309_c (X := X) (d := d) hi V o h3 h4 (s 1).toNat g2 (by omega) (RM_156 r f2) (by rw [show (((s 1).toNat : Nat) : Int) = s 1 by omega]; exact q2)
  rw [show (((s 1).toNat : Nat) : Int) = s 1 by omega] at q
  refine Ok_mono q ?_
  rintro v g3 ⟨p1, p2, p3⟩
  exact ⟨p1, F156_tr f2 p2, p3⟩
theorem m_311 (r : RM g s) (hi : Iv N s) (V o : Int) : AnM g (qArms s V o) (MI X (d + 6) 311 [.inr (.inr 143), .inl V, .inl o] S0 (ov g)) := by
  rw [e_311]
  simp only [↓K_mod, ↓oC_of (m_310 r hi V o), ↓if_b2i]
  unfold qArms
  by_cases h : arC s V o
  case neg =>
    rw [if_neg h, if_neg h]
    exact AnM_no (FN_rf g) 1
  rw [if_pos h, if_pos h]
  obtain ⟨h1, h2, h3⟩ := h
  have nb := arN_b hi (V := V) h1.1 h1.2
  refine Ok_bind (m_309 r hi V o h1.1 h1.2) ?_
  rintro v g2 ⟨rfl, f2, -⟩
  rw [K_mod, e_302]
  by_cases z : arN s V o = 1000000
  · rw [if_pos z, if_neg (by omega), K_mod, oC_of (m_201 _)]
    exact Ok_some ⟨rfl, rd_wr_eq _ _ _ _, FN_tr (FN_156 f2) (FN_st _ _)⟩
  · rw [if_neg z, if_pos (by omega), K_mod, oC_of (m_202 _)]
    exact Ok_some ⟨rfl, rd_wr_eq _ _ _ _, FN_tr (FN_156 f2) (FN_st _ _)⟩
end
