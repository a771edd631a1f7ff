/-! armOf of the model -/
theorem ff_le (p : Int → Bool) : ∀ (k : Nat) (m : Int), ff p k m = -1 ∨ (m ≤ ff p k m ∧ ff p k m < m + k)
  | 0, _ => Or.inl rfl
  | k + 1, m => by
    cases hp : p m with
    | true =>
      have e : ff p (k + 1) m = m := by
        show (bif p m then m else ff p k (m + 1)) = m
        rw [hp, cond_true]
      rw [e]; omega
    | false =>
      have e : ff p (k + 1) m = ff p k (m + 1) := by
        show (bif p m then m else ff p k (m + 1)) = _
        rw [hp, cond_false]
      have q := ff_le p k (m + 1)
      rw [e]; omega
theorem ff_tr (p : Int → Bool) : ∀ (k : Nat) (m : Int), 0 ≤ m → m ≤ ff p k m → p (ff p k m) = true
  | 0, m, h0, h => by
    have : ff p 0 m = -1 := rfl
    omega
  | k + 1, m, h0, h => by
    cases hp : p m with
    | true =>
      have e : ff p (k + 1) m = m := by
        show (bif p m then m else ff p k (m + 1)) = m
        rw [hp, cond_true]
      rw [e]; exact hp
    | false =>
      have e : ff p (k + 1) m = ff p k (m + 1) := by
        show (bif p m then m else ff p k (m + 1)) = _
        rw [hp, cond_false]
      have q := ff_le p k (m + 1)
      rw [e] at h ⊢
      refine ff_tr p k (m + 1) (by omega) ?_
      omega
section
variable {X : Xs} {d : Nat} {g : Mem} {s : Int → Int} {N : Int}
theorem m_312_t (r : RM g s) (hi : Iv N s) (V o w : Int) (h3 : 0 ≤ o) (h4 : o < s 1) (tq : Tq s V o 0 g) (k : Nat) (i T : Int) (hm : i + k + 1 = s 1) (i0' : 0 ≤ i) (T0 : 0 ≤ T) (T1 : T < ((2 ^ (s 0).toNat : Nat) : Int)) (hM : arF (ndf s o) V (s 0).toNat (k + 1) i T < 1000000) : ∀ (k2 : Nat) (t : Int), t + k2 = s 0 → 0 ≤ t → t ≤ arT (ndf s o) V (s 0).toNat k i T (arF (ndf s o) V (s 0).toNat (k + 1) i T) k2 t → EI X (d + 6) 312 82 [some (.inr (.inr 143)), some (.inl V), some (.inl o), some (.inl w), some (.inl T), some (.inl t), some (.inl i)] [] S0 (ov g) = EI X (d + 6) 312 60 [some (.inr (.inr 143)), some (.inl V), some (.inl o), some (.inl w), some (.inl (oI T (arT (ndf s o) V (s 0).toNat k i T (arF (ndf s o) V (s 0).toNat (k + 1) i T) k2 t))), some (.inl (arT (ndf s o) V (s 0).toNat k i T (arF (ndf s o) V (s 0).toNat (k + 1) i T) k2 t)), some (.inl (i + 1))] [] S0 (ov g) := by
  have i0 := hi.1
  have i1 := hi.2.1
  have i3 := hi.2.2.2.1
  have p8 := pow_256 (n := (s 0).toNat) (by omega)
  intro k2
  induction k2 with
  | zero =>
    intro t hk t0 h
    have e : arT (ndf s o) V (s 0).toNat k i T (arF (ndf s o) V (s 0).toNat (k + 1) i T) 0 t = -1 := rfl
    rw [e] at h
    exact absurd h (by omega)
  | succ k2 ih =>
    intro t hk t0 h
    have b01 := bi_01 T t
    rw [e_312_82]
    simp only [↓K_mod, ↓oC_of (m_250 _ _ _ _), ↓if_b2i]
    have nx : ¬ (bi T t = 0 ∧ arG (ndf s o) V (s 0).toNat k i T t = arF (ndf s o) V (s 0).toNat (k + 1) i T) → EI X (d + 6) 312 82 [some (.inr (.inr 143)), some (.inl V), some (.inl o), some (.inl w), some (.inl T), some (.inl (w32 (t + 1))), some (.inl i)] [] S0 (ov g) = EI X (d + 6) 312 60 [some (.inr (.inr 143)), some (.inl V), some (.inl o), some (.inl w), some (.inl (oI T (arT (ndf s o) V (s 0).toNat k i T (arF (ndf s o) V (s 0).toNat (k + 1) i T) (k2 + 1) t))), some (.inl (arT (ndf s o) V (s 0).toNat k i T (arF (ndf s o) V (s 0).toNat (k + 1) i T) (k2 + 1) t)), some (.inl (i + 1))] [] S0 (ov g) := fun z => by
      have e := arT_x (n := k2) z
      rw [e] at h
      have h5 : t + 1 ≤ arT (ndf s o) V (s 0).toNat k i T (arF (ndf s o) V (s 0).toNat (k + 1) i T) k2 (t + 1) := by
        have q := ff_le (fun t => decide (bi T t = 0 ∧ arG (ndf s o) V (s 0).toNat k i T t = arF (ndf s o) V (s 0).toNat (k + 1) i T)) k2 (t + 1)
        have e2 : arT (ndf s o) V (s 0).toNat k i T (arF (ndf s o) V (s 0).toNat (k + 1) i T) k2 (t + 1) = ff (fun t => decide (bi T t = 0 ∧ arG (ndf s o) V (s 0).toNat k i T t = arF (ndf s o) V (s 0).toNat (k + 1) i T)) k2 (t + 1) := rfl
        omega
      rw [e, w32_id (by omega) (by omega)]
      exact ih (t + 1) (by omega) (by omega) h5
    by_cases hb : bi T t = 1
    · rw [if_pos hb]
      exact nx (fun z => by omega)
    · have n := ndN_r hi (m := i) h3 h4 t
      have ob := oI_b (T := T) (t := t) (K := (s 0).toNat) (by omega) T0 T1 t0 (by omega)
      have ar := arF_b (nd := ndf s o) (fun m t => ndN_r hi h3 h4 t) V (s 0).toNat k (by omega) (i + 1) (oI T t)
      have q := m_300 (X := X) (d := d + 2) r hi i o t i0' (by omega) h3 h4 (by omega) (by omega)
      have z := tq (i + 1) (oI T t) (by omega) (by omega) ob.1 ob.2
      have z2 := tq i T (by omega) (by omega) T0 T1
      have on : 0 ≤ orF (ndN s i o t) ∧ orF (ndN s i o t) ≤ 1000000 := by unfold orF; split <;> omega
      rw [show asM t = t from if_neg (by omega)] at q
      rw [show (s 1 - (i + 1)).toNat = k by omega] at z
      rw [show (s 1 - i).toNat = k + 1 by omega] at z2
      rw [if_neg hb, oC_of q, show am_or T (am_shl 1 t) = oI T t from rfl, w32_id (x := i + 1) (by omega) (by omega), w32_id (x := 256 * (i + 1)) (by omega) (by omega), w32_id (x := 256 * (i + 1) + oI T t) (by omega) (by omega), w32_id (x := 256 * i) (by omega) (by omega), w32_id (x := 256 * i + T) (by omega) (by omega)]
      simp (disch := omega) only [↓G_mod, ↓al_156 _, z, z2]
      rw [w32_id (x := orF (ndN s i o t) + arF (ndf s o) V (s 0).toNat k (i + 1) (oI T t)) (by omega) (by omega)]
      have eg : arG (ndf s o) V (s 0).toNat k i T t = am_min 1000000 (orF (ndN s i o t) + arF (ndf s o) V (s 0).toNat k (i + 1) (oI T t)) := rfl
      by_cases hq : orF (ndN s i o t) + arF (ndf s o) V (s 0).toNat k (i + 1) (oI T t) = arF (ndf s o) V (s 0).toNat (k + 1) i T
      · have e : bi T t = 0 ∧ arG (ndf s o) V (s 0).toNat k i T t = arF (ndf s o) V (s 0).toNat (k + 1) i T := by
          refine ⟨by omega, ?_⟩
          rw [eg, hq]
          unfold am_min
          rw [if_neg (by omega)]
        rw [if_pos hq, arT_t (n := k2) e]
      · rw [if_neg hq]
        refine nx (fun z => hq ?_)
        have z := z.2
        rw [eg] at z
        unfold am_min at z
        split at z <;> omega
theorem m_312_l (hi : Iv N s) (V o w : Int) (h3 : 0 ≤ o) (h4 : o < s 1) {g1 : Mem} (r : RM g1 s) (f : FN g g1) (tq : Tq s V o 0 g1) (w0 : 0 ≤ w) (w1 : w < s 1) (hw : bi V w = 1) : ∀ (k : Nat) (i T l : Int), i + k = s 1 → 0 ≤ i → i ≤ w → 0 ≤ T → T < ((2 ^ (s 0).toNat : Nat) : Int) → arF (ndf s o) V (s 0).toNat k i T < 1000000 → AnM g (arA (ndf s o) V (s 0).toNat k i T w, 0) (EI X (d + 6) 312 60 [some (.inr (.inr 143)), some (.inl V), some (.inl o), some (.inl w), some (.inl T), some (.inl l), some (.inl i)] [] S0 (ov g1)) := by
  have i0 := hi.1
  have i1 := hi.2.1
  have i3 := hi.2.2.2.1
  intro k
  induction k with
  | zero => intro i T l hk i0' iw T0 T1 hM; omega
  | succ k ih =>
    intro i T l hk i0' iw T0 T1 hM
    have b01 := bi_01 V i
    rw [e_312_60, if_neg (show ¬ w < i by omega)]
    simp only [↓K_mod, ↓oC_of (m_250 _ _ _ _), ↓if_b2i]
    by_cases hb : bi V i = 1
    case neg =>
      have ne : i ≠ w := fun e => hb (by rw [e]; exact hw)
      rw [arF_s, if_neg hb] at hM
      rw [if_neg hb, arA_s, if_neg hb, w32_id (by omega) (by omega)]
      exact ih (i + 1) T l (by omega) (by omega) (by omega) T0 T1 hM
    have hn := arF_b (nd := ndf s o) (fun m t => ndN_r hi h3 h4 t) V (s 0).toNat k (by omega)
    have hg := arG_b (nd := ndf s o) (fun m t => ndN_r hi h3 h4 t) V (s 0).toNat (k := k) i T (by omega) hn
    have hM2 := hM
    rw [arF_s, if_pos hb] at hM2
    have ex := mnF_ex T (arG (ndf s o) V (s 0).toNat k i T) (fun t => by have := hg t; omega) (s 0).toNat 0 hM2
    have eM : arF (ndf s o) V (s 0).toNat (k + 1) i T = mnF T (arG (ndf s o) V (s 0).toNat k i T) (s 0).toNat 0 1000000 := by rw [arF_s, if_pos hb]
    rw [← eM] at ex
    have et : arT (ndf s o) V (s 0).toNat k i T (arF (ndf s o) V (s 0).toNat (k + 1) i T) (s 0).toNat 0 = ff (fun x => decide (bi T x = 0 ∧ arG (ndf s o) V (s 0).toNat k i T x = arF (ndf s o) V (s 0).toNat (k + 1) i T)) (s 0).toNat 0 := rfl
    have pt := ff_tr _ _ 0 (by omega) ex.1
    rw [← et] at ex pt
    have pt2 := of_decide_eq_true pt
    rw [if_pos hb, m_312_t (d := d) r hi V o w h3 h4 tq k i T (by omega) i0' T0 T1 hM (s 0).toNat 0 (by omega) (by omega) ex.1, arA_s, if_pos hb]
    generalize arT (ndf s o) V (s 0).toNat k i T (arF (ndf s o) V (s 0).toNat (k + 1) i T) (s 0).toNat 0 = tt at ex pt2
    by_cases e : w = i
    · rw [e_312_60, if_pos (show w < i + 1 by omega), if_pos e, K_mod]
      exact AnM_tell f _
    · rw [if_neg e]
      have ob := oI_b (T := T) (t := tt) (K := (s 0).toNat) (by omega) T0 T1 ex.1 (by omega)
      refine ih (i + 1) (oI T tt) tt (by omega) (by omega) (by omega) ob.1 ob.2 ?_
      have z := pt2.2
      have on : 0 ≤ orF (ndN s i o tt) := by have := ndN_r hi (m := i) h3 h4 tt; unfold orF; split <;> omega
      have eg : arG (ndf s o) V (s 0).toNat k i T tt = am_min 1000000 (orF (ndN s i o tt) + arF (ndf s o) V (s 0).toNat k (i + 1) (oI T tt)) := rfl
      rw [eg] at z
      unfold am_min at z
      split at z <;> omega
theorem m_312 (r : RM g s) (hi : Iv N s) (V o w : Int) : AnM g (qArmOf s V o w) (MI X (d + 6) 312 [.inr (.inr 143), .inl V, .inl o, .inl w] S0 (ov g)) := by
  rw [e_312]
  simp only [↓K_mod, ↓oC_of (m_310 r hi V o), ↓oC_of (m_247 r _), ↓oC_of (m_250 _ _ _ _), ↓if_b2i]
  unfold qArmOf
  by_cases h : arC s V o
  case neg =>
    rw [if_neg h, if_neg (fun z => h z.1)]
    exact AnM_no (FN_rf g) 1
  rw [if_pos h]
  by_cases hw : 0 ≤ w ∧ w < s 1
  case neg =>
    rw [if_neg hw, if_neg (fun z => hw z.2.1)]
    exact AnM_no (FN_rf g) 1
  rw [if_pos hw]
  by_cases hz : bi V w = 1
  case neg =>
    rw [if_neg hz, if_neg (fun z => hz z.2.2)]
    exact AnM_no (FN_rf g) 1
  have y : arC s V o ∧ (0 ≤ w ∧ w < s 1) ∧ bi V w = 1 := ⟨h, hw, hz⟩
  rw [if_pos hz, if_pos y]
  obtain ⟨h1, h2, h3⟩ := h
  have i2 := hi.2.2.1
  have nb := arN_b hi (V := V) h1.1 h1.2
  refine Ok_bind (m_309 r hi V o h1.1 h1.2) ?_
  rintro v g2 ⟨rfl, f2, tq⟩
  by_cases z : arN s V o = 1000000
  · rw [if_pos z, if_neg (show ¬ arN s V o < 1000000 by omega)]
    exact AnM_no (FN_156 f2) 6
  · have p8 : 0 < 2 ^ (s 0).toNat := Nat.two_pow_pos _
    rw [if_neg z, if_pos (show arN s V o < 1000000 by omega)]
    exact m_312_l (d := d) hi V o w h1.1 h1.2 (RM_156 r f2) (FN_156 f2) tq hw.1 hw.2 hz (s 1).toNat 0 0 (-1) (by omega) (by omega) hw.1 (by omega) (by omega) (show arN s V o < 1000000 by omega)
end
