/-! leastAt of both -/
def qLeastAt (s : Int → Int) (w : Int) : Int × Int := if 0 ≤ w ∧ w < s 1 then (leA s (s 1).toNat 0 w, 0) else (-1, 1)
/-- the least is taken by one, whatever the rest -/
theorem mnF_ex2 (T : Int) (f : Int → Int) : ∀ (k : Nat) (t : Int), mnF T f k t 1000000 < 1000000 → t ≤ ff (fun x => decide (bi T x = 0 ∧ f x = mnF T f k t 1000000)) k t ∧ ff (fun x => decide (bi T x = 0 ∧ f x = mnF T f k t 1000000)) k t < t + k := by
  have cap : ∀ (k : Nat) (t a : Int), mnF T (fun x => am_min 1000000 (f x)) k t (am_min 1000000 a) = am_min 1000000 (mnF T f k t a) := by
    intro k
    induction k with
    | zero => intro t a; rfl
    | succ k ih =>
      intro t a
      rw [mnF_s, mnF_s]
      by_cases h : bi T t = 1
      · rw [if_pos h, if_pos h]; exact ih _ _
      · rw [if_neg h, if_neg h, ← ih]
        congr 1
        unfold am_min
        (repeat' split) <;> omega
  intro k t h
  have c := cap k t 1000000
  rw [show am_min 1000000 1000000 = (1000000 : Int) from rfl] at c
  have e : am_min 1000000 (mnF T f k t 1000000) = mnF T f k t 1000000 := by unfold am_min; rw [if_neg (by omega)]
  rw [e] at c
  have q := mnF_ex T (fun x => am_min 1000000 (f x)) (fun x => by unfold am_min; split <;> omega) k t (by rw [c]; exact h)
  rw [c] at q
  have pe : (fun x => decide (bi T x = 0 ∧ am_min 1000000 (f x) = mnF T f k t 1000000)) = (fun x => decide (bi T x = 0 ∧ f x = mnF T f k t 1000000)) := by
    funext x
    have : (bi T x = 0 ∧ am_min 1000000 (f x) = mnF T f k t 1000000) ↔ (bi T x = 0 ∧ f x = mnF T f k t 1000000) := by
      unfold am_min
      split <;> omega
    exact decide_eq_decide.2 this
  have q' : t ≤ ff (fun x => decide (bi T x = 0 ∧ am_min 1000000 (f x) = mnF T f k t 1000000)) k t ∧ ff (fun x => decide (bi T x = 0 ∧ am_min 1000000 (f x) = mnF T f k t 1000000)) k t < t + k := q
  rw [pe] at q'
  exact q'
section
variable {X : Xs} {d : Nat} {g : Mem} {s : Int → Int} {N : Int}
theorem c_174 (r : RD g 19 s) (hi : Iv N s) (hN : N < 1000000) (w : Int) : AnC g (qLeastAt s w) (MI X (d + 9) 174 [.inr (.inr 1), .inl w] S0 (ov g)) := by
  have hb := isD19
  have r1 := r.2.1
  have i3 := hi.2.2.2.1
  rw [e_174]
  unfold qLeastAt
  by_cases h1 : w < 0
  · rw [if_pos h1, if_neg (show ¬ (0 ≤ w ∧ w < s 1) by omega), K_top]
    exact AnC_no (FC_rf g) 1
  rw [if_neg h1]
  simp only [↓K_top, ↓G_top, ↓P_top, ↓G_daw hb, r1, ↓K_ord]
  by_cases h2 : w < s 1
  case neg =>
    rw [if_neg h2, if_neg (show ¬ (0 ≤ w ∧ w < s 1) by omega)]
    exact AnC_no (FC_rf g) 1
  rw [if_pos h2, if_pos (show 0 ≤ w ∧ w < s 1 by omega)]
  refine Ok_bind (c_77 r hi hN) ?_
  rintro v g2 ⟨f2, e1, e2⟩
  simp (disch := omega) only [↓K_top, ↓G_top, ↓P_top, ↓G_ord, ↓al_139 _, e2 w (by omega) h2]
  exact AnC_tell f2 _
theorem m_324_t (r : RM g s) (hi : Iv N s) (hN : N < 1000000) (w : Int) (tl : Tl s 0 g) (k : Nat) (i T : Int) (hm : i + k + 1 = s 1) (i0 : 0 ≤ i) (T0 : 0 ≤ T) (T1 : T < ((2 ^ (s 1).toNat : Nat) : Int)) (hc : cnF T (s 1).toNat 0 = i) : ∀ (k2 : Nat) (t : Int), t + k2 = s 1 → 0 ≤ t → t ≤ leT s k T (leF s (k + 1) T) k2 t → EI X (d + 3) 324 33 [some (.inr (.inr 143)), some (.inl w), some (.inl T), some (.inl t), some (.inl i)] [] S0 (ov g) = EI X (d + 3) 324 25 [some (.inr (.inr 143)), some (.inl w), some (.inl (oI T (leT s k T (leF s (k + 1) T) k2 t))), some (.inl (leT s k T (leF s (k + 1) T) k2 t)), some (.inl (i + 1))] [] S0 (ov g) := by
  have i2 := hi.2.2.1
  have i3 := hi.2.2.2.1
  have p6 := pow_64 (n := (s 1).toNat) (by omega)
  intro k2
  induction k2 with
  | zero =>
    intro t hk t0 h
    have e : leT s k T (leF s (k + 1) T) 0 t = -1 := rfl
    rw [e] at h
    exact absurd h (by omega)
  | succ k2 ih =>
    intro t hk t0 h
    have b01 := bi_01 T t
    rw [e_324_33]
    simp only [↓K_mod, ↓oC_of (m_250 _ _ _ _), ↓if_b2i]
    have nx : ¬ (bi T t = 0 ∧ leG s k T t = leF s (k + 1) T) → EI X (d + 3) 324 33 [some (.inr (.inr 143)), some (.inl w), some (.inl T), some (.inl (w32 (t + 1))), some (.inl i)] [] S0 (ov g) = EI X (d + 3) 324 25 [some (.inr (.inr 143)), some (.inl w), some (.inl (oI T (leT s k T (leF s (k + 1) T) (k2 + 1) t))), some (.inl (leT s k T (leF s (k + 1) T) (k2 + 1) t)), some (.inl (i + 1))] [] S0 (ov g) := fun z => by
      have e := leT_x (n := k2) z
      rw [e] at h
      have h5 : t + 1 ≤ leT s k T (leF s (k + 1) T) k2 (t + 1) := by
        have q := ff_le (fun t => decide (bi T t = 0 ∧ leG s k T t = leF s (k + 1) T)) k2 (t + 1)
        have e2 : leT s k T (leF s (k + 1) T) k2 (t + 1) = ff (fun t => decide (bi T t = 0 ∧ leG s k T t = leF s (k + 1) T)) k2 (t + 1) := rfl
        omega
      rw [e, w32_id (by omega) (by omega)]
      exact ih (t + 1) (by omega) (by omega) h5
    by_cases hb : bi T t = 1
    · rw [if_pos hb]
      exact nx (fun z => by omega)
    · have hb0 : bi T t = 0 := by omega
      have ob := oI_b (T := T) (t := t) (K := (s 1).toNat) (by omega) T0 T1 t0 (by omega)
      have ca := cnF_add (T := T) (t := t) T0 (by omega) t0 hb0 (s 1).toNat 0 (by omega) (by omega) (by omega) (by omega)
      have z := tl (oI T t) (by omega) ob.2
      have z2 := tl T (by omega) T1
      have lb := leF_b hi k (oI T t) ob.1 ob.2 (by omega)
      have ln := leF_nn hi k (oI T t)
      have tn := tl_N hi (oI T t)
      have hu := hu_lo hi T t t0 (by omega)
      have lo := Iv_lo hi t0 (show t < s 1 by omega)
      have ev : leV s (oI T t) = leF s k (oI T t) := by
        unfold leV
        rw [show (s 1 - cnF (oI T t) (s 1).toNat 0).toNat = k by omega]
      have ev2 : leV s T = leF s (k + 1) T := by
        unfold leV
        rw [show (s 1 - cnF T (s 1).toNat 0).toNat = k + 1 by omega]
      have eg : leG s k T t = huF s T t (s 1).toNat 0 + leF s k (oI T t) := rfl
      rw [if_neg hb, oC_of (m_321 (d := d) r hi (show N < 2000000000 by omega) T t t0 (by omega)), show am_or T (am_shl 1 t) = oI T t from rfl]
      simp (disch := omega) only [↓G_mod, ↓al_159 _, z, z2, ev, ev2]
      rw [w32_id (x := huF s T t (s 1).toNat 0 + leF s k (oI T t)) (by omega) (by omega), ← eg]
      by_cases hq : leG s k T t = leF s (k + 1) T
      · rw [if_pos hq, leT_t (n := k2) ⟨hb0, hq⟩, w32_id (by omega) (by omega)]
      · rw [if_neg hq]
        exact nx (fun z => hq z.2)
theorem m_324_l (hi : Iv N s) (hN : N < 1000000) (w : Int) {g1 : Mem} (r : RM g1 s) (f : FN g g1) (tl : Tl s 0 g1) (w0 : 0 ≤ w) (w1 : w < s 1) : ∀ (k : Nat) (i T l : Int), i + k = s 1 → 0 ≤ i → i ≤ w → 0 ≤ T → T < ((2 ^ (s 1).toNat : Nat) : Int) → cnF T (s 1).toNat 0 = i → AnM g (leA s k T w, 0) (EI X (d + 3) 324 25 [some (.inr (.inr 143)), some (.inl w), some (.inl T), some (.inl l), some (.inl i)] [] S0 (ov g1)) := by
  have i2 := hi.2.2.1
  have i3 := hi.2.2.2.1
  have p6 := pow_64 (n := (s 1).toNat) (by omega)
  intro k
  induction k with
  | zero => intro i T l hk i0 iw T0 T1 hc; omega
  | succ k ih =>
    intro i T l hk i0 iw T0 T1 hc
    have lb := leF_b hi (k + 1) T T0 T1 (by omega)
    have tn := tl_N hi T
    have hM2 : mnF T (leG s k T) (s 1).toNat 0 1000000 < 1000000 := by rw [← leF_s]; omega
    obtain ⟨t1, q1, q2, q3⟩ := cn_ex T (s 1).toNat 0 (by omega)
    rw [e_324_25, if_neg (show ¬ w < i by omega)]
    have ex := mnF_ex2 T (leG s k T) (s 1).toNat 0 hM2
    rw [← leF_s] at ex
    have et : leT s k T (leF s (k + 1) T) (s 1).toNat 0 = ff (fun x => decide (bi T x = 0 ∧ leG s k T x = leF s (k + 1) T)) (s 1).toNat 0 := rfl
    have pt := ff_tr _ _ 0 (by omega) ex.1
    rw [← et] at ex pt
    have pt2 := of_decide_eq_true pt
    rw [m_324_t (d := d) r hi hN w tl k i T (by omega) i0 T0 T1 hc (s 1).toNat 0 (by omega) (by omega) ex.1, leA_s, show s 1 - ((k + 1 : Nat) : Int) = i by omega]
    generalize leT s k T (leF s (k + 1) T) (s 1).toNat 0 = tt at ex pt2
    by_cases e : w = i
    · rw [e_324_25, if_pos (show w < i + 1 by omega), if_pos e, K_mod]
      exact AnM_tell f _
    · rw [if_neg e]
      have ob := oI_b (T := T) (t := tt) (K := (s 1).toNat) (by omega) T0 T1 ex.1 (by omega)
      have ca := cnF_add (T := T) (t := tt) T0 (by omega) ex.1 pt2.1 (s 1).toNat 0 (by omega) (by omega) (by omega) (by omega)
      exact ih (i + 1) (oI T tt) tt (by omega) (by omega) (by omega) ob.1 ob.2 (by omega)
theorem m_324 (r : RM g s) (hi : Iv N s) (hN : N < 1000000) (w : Int) : AnM g (qLeastAt s w) (MI X (d + 4) 324 [.inr (.inr 143), .inl w] S0 (ov g)) := by
  have i2 := hi.2.2.1
  have i3 := hi.2.2.2.1
  have p0 : 0 < 2 ^ (s 1).toNat := Nat.two_pow_pos _
  rw [e_324]
  simp only [↓K_mod, ↓oC_of (m_247 r _), ↓if_b2i]
  unfold qLeastAt
  by_cases hw : 0 ≤ w ∧ w < s 1
  case neg =>
    rw [if_neg hw, if_neg hw]
    exact AnM_no (FN_rf g) 1
  rw [if_pos hw, if_pos hw]
  refine Ok_bind (m_322 r hi hN) ?_
  rintro v g2 ⟨f2, tl⟩
  exact m_324_l (d := d + 1) hi hN w (RM_159 r f2) (FN_159 f2) tl hw.1 hw.2 (s 1).toNat 0 0 (-1) (by omega) (by omega) hw.1 (by omega) (by omega) (cn_nul _ (by omega))
end
