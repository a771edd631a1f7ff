/-! the least hurt of the model: a table over sets -/
theorem gt_all : ∀ T : Fin 64, ∀ t : Fin 6, bi (T.val : Int) (t.val : Int) = 0 → (T.val : Int) < oI (T.val : Int) (t.val : Int) := by decide +kernel
theorem oI_gt {T t : Int} (T0 : 0 ≤ T) (T1 : T < 64) (t0 : 0 ≤ t) (t1 : t < 6) (h : bi T t = 0) : T < oI T t := by
  have q := gt_all ⟨T.toNat, by omega⟩ ⟨t.toNat, by omega⟩
  simp only [show (T.toNat : Int) = T by omega, show (t.toNat : Int) = t by omega] at q
  exact q h
theorem cn_lt_all : ∀ n : Fin 7, ∀ T : Fin 64, T.val + 1 < 2 ^ n.val → cnF (T.val : Int) n.val 0 < n.val := by decide +kernel
theorem cn_fu_all : ∀ n : Fin 7, cnF (((2 ^ n.val : Nat) : Int) - 1) n.val 0 = n.val ∧ ∀ t : Fin 6, t.val < n.val → bi (((2 ^ n.val : Nat) : Int) - 1) (t.val : Int) = 1 := by decide +kernel
theorem mnF_all (T : Int) (f : Int → Int) : ∀ (k : Nat) (t a : Int), (∀ i, t ≤ i → i < t + k → bi T i = 1) → mnF T f k t a = a
  | 0, _, _, _ => rfl
  | k + 1, t, a, h => by
    rw [mnF_s, if_pos (h t (by omega) (by omega))]
    exact mnF_all T f k (t + 1) a (fun i h1 h2 => h i (by omega) (by omega))
def leV (s : Int → Int) (T : Int) : Int := leF s (s 1 - cnF T (s 1).toNat 0).toNat T
def Tl (s : Int → Int) (j : Int) (g : Mem) : Prop := ∀ T, j ≤ T → T < ((2 ^ (s 1).toNat : Nat) : Int) → rd g 159 T = leV s T
def F159 (g g' : Mem) : Prop := ∀ c i, 0 ≤ c → c ≠ 159 → rd g' c i = rd g c i
theorem F159_tr {g g1 g2 : Mem} (h1 : F159 g g1) (h2 : F159 g1 g2) : F159 g g2 := fun c i a e => (h2 c i a e).trans (h1 c i a e)
theorem F159_rf (g : Mem) : F159 g g := fun _ _ _ _ => rfl
theorem F159_wr (g : Mem) (i x : Int) : F159 g (wr g 159 i x) := fun c j a e => rd_wr_ne g i j x (by omega) a e
theorem RM_159 {g g1 : Mem} {s : Int → Int} (r : RM g s) (f : F159 g g1) : RM g1 s := fun i a b => (f 144 i (by omega) (by omega)).trans (r i a b)
theorem FN_159 {g g1 : Mem} (f : F159 g g1) : FN g g1 := fun c i a b e k => f c i a (fun z => e (by unfold ScM; omega))
section
variable {X : Xs} {d : Nat} {g : Mem} {s : Int → Int} {N : Int}
theorem m_322_i (hi : Iv N s) (hN : N < 1000000) (u T : Int) (T0 : 0 ≤ T) (T1 : T < ((2 ^ (s 1).toNat : Nat) : Int)) (P : Option Rs → Prop) : ∀ (k : Nat) (t a : Int) (g1 : Mem), t + k = s 1 → 0 ≤ t → 0 ≤ a → a ≤ 1000000 → RM g1 s → Tl s (T + 1) g1 → rd g1 159 T = a → (∀ g2, F159 g1 g2 → Tl s (T + 1) g2 → rd g2 159 T = mnF T (leG s (s 1 - cnF T (s 1).toNat 0 - 1).toNat T) k t a → P (EI X (d + 3) 322 13 [some (.inr (.inr 143)), some (.inl u), some (.inl (T - 1)), none] [] S0 (ov g2))) → P (EI X (d + 3) 322 37 [some (.inr (.inr 143)), some (.inl u), some (.inl T), some (.inl t)] [] S0 (ov g1)) := by
  have i2 := hi.2.2.1
  have i3 := hi.2.2.2.1
  have p6 := pow_64 (n := (s 1).toNat) (by omega)
  intro k
  induction k with
  | zero =>
    intro t a g1 hk t0 a0 a1' r tl ha H
    have a1 : rd g1 144 1 = s 1 := r 1 (by omega) (by omega)
    rw [e_322_37]
    simp (disch := omega) only [↓K_mod, ↓G_mod, ↓al_144 _, a1]
    rw [if_neg (show ¬ t < s 1 by omega), show w32 (T + -1) = T - 1 from w32_id (by omega) (by omega)]
    exact H g1 (F159_rf g1) tl ha
  | succ k ih =>
    intro t a g1 hk t0 a0 a1' r tl ha H
    have a1 : rd g1 144 1 = s 1 := r 1 (by omega) (by omega)
    have b01 := bi_01 T t
    rw [e_322_37]
    simp (disch := omega) only [↓K_mod, ↓G_mod, ↓al_144 _, a1, ↓oC_of (m_250 _ _ _ _), ↓if_b2i]
    rw [if_pos (show t < s 1 by omega), w32_id (x := t + 1) (by omega) (by omega)]
    by_cases hb : bi T t = 1
    · rw [if_pos hb]
      refine ih (t + 1) a g1 (by omega) (by omega) a0 a1' r tl ha (fun g2 f2 t2 q2 => H g2 f2 t2 ?_)
      rw [mnF_s, if_pos hb]; exact q2
    · have hb0 : bi T t = 0 := by omega
      have ob := oI_b (T := T) (t := t) (K := (s 1).toNat) (by omega) T0 T1 t0 (by omega)
      have ca := cnF_add (T := T) (t := t) T0 (by omega) t0 hb0 (s 1).toNat 0 (by omega) (by omega) (by omega) (by omega)
      have cb := cnF_b (oI T t) (s 1).toNat 0
      have gt := oI_gt T0 (by omega) t0 (by omega) hb0
      have z := tl (oI T t) (by omega) ob.2
      have lb := leF_b hi (s 1 - cnF (oI T t) (s 1).toNat 0).toNat (oI T t) ob.1 ob.2 (by omega)
      have ln := leF_nn hi (s 1 - cnF (oI T t) (s 1).toNat 0).toNat (oI T t)
      have tn := tl_N hi (oI T t)
      have hu := hu_lo hi T t t0 (by omega)
      have lo := Iv_lo hi t0 (show t < s 1 by omega)
      have ev : leV s (oI T t) = leF s (s 1 - cnF T (s 1).toNat 0 - 1).toNat (oI T t) := by
        unfold leV
        rw [ca, show s 1 - (cnF T (s 1).toNat 0 + 1) = s 1 - cnF T (s 1).toNat 0 - 1 by omega]
      rw [show (s 1 - cnF (oI T t) (s 1).toNat 0).toNat = (s 1 - cnF T (s 1).toNat 0 - 1).toNat by omega] at lb ln
      have eg : leG s (s 1 - cnF T (s 1).toNat 0 - 1).toNat T t = huF s T t (s 1).toNat 0 + leF s (s 1 - cnF T (s 1).toNat 0 - 1).toNat (oI T t) := rfl
      rw [if_neg hb]
      simp (disch := omega) only [↓G_mod, ↓al_159 _, ha, ↓K_mod, ↓oC_of (m_321 r hi (show N < 2000000000 by omega) T t t0 (show t < s 1 by omega))]
      rw [show am_or T (am_shl 1 t) = oI T t from rfl]
      simp (disch := omega) only [↓al_159 _, z, ev]
      rw [w32_id (x := huF s T t (s 1).toNat 0 + leF s (s 1 - cnF T (s 1).toNat 0 - 1).toNat (oI T t)) (by omega) (by omega), ← eg]
      simp (disch := omega) only [↓as_159]
      have fw := F159_wr g1 T (am_min a (leG s (s 1 - cnF T (s 1).toNat 0 - 1).toNat T t))
      refine ih (t + 1) (am_min a (leG s (s 1 - cnF T (s 1).toNat 0 - 1).toNat T t)) _ (by omega) (by omega) (by unfold am_min; split <;> omega) (by unfold am_min; split <;> omega) (RM_159 r fw) (fun T' h1 h2 => ?_) (rd_wr_eq _ _ _ _) (fun g2 f2 t2 q2 => H g2 (F159_tr fw f2) t2 ?_)
      · rw [rd_wr_if _ _ _ T0 (by omega), if_neg (by omega)]
        exact tl T' h1 h2
      · rw [mnF_s, if_neg hb]; exact q2
theorem m_322_o (hi : Iv N s) (hN : N < 1000000) : ∀ (j : Nat) (g1 : Mem), j ≤ 2 ^ (s 1).toNat → RM g1 s → Tl s j g1 → Ok (fun v g' => F159 g1 g' ∧ Tl s 0 g') (EI X (d + 3) 322 13 [some (.inr (.inr 143)), some (.inl (((2 ^ (s 1).toNat : Nat) : Int) - 1)), some (.inl ((j : Int) - 1)), none] [] S0 (ov g1)) := by
  have i2 := hi.2.2.1
  have i3 := hi.2.2.2.1
  have p6 := pow_64 (n := (s 1).toNat) (by omega)
  intro j
  induction j with
  | zero =>
    intro g1 hj r tl
    rw [e_322_13, if_pos (by omega)]
    exact Ok_some ⟨F159_rf g1, tl⟩
  | succ j ih =>
    intro g1 hj r tl
    have fu := cn_fu_all ⟨(s 1).toNat, by omega⟩
    have cl := cn_lt_all ⟨(s 1).toNat, by omega⟩ ⟨j, by omega⟩
    simp only at fu cl
    rw [e_322_13, if_neg (by omega), show ((j + 1 : Nat) : Int) - 1 = (j : Int) by omega]
    simp (disch := omega) only [↓G_mod, ↓as_159]
    have go : ∀ a : Int, 0 ≤ a → a ≤ 1000000 → mnF (j : Int) (leG s (s 1 - cnF (j : Int) (s 1).toNat 0 - 1).toNat (j : Int)) (s 1).toNat 0 a = leV s (j : Int) → Ok (fun v g' => F159 g1 g' ∧ Tl s 0 g') (EI X (d + 3) 322 37 [some (.inr (.inr 143)), some (.inl (((2 ^ (s 1).toNat : Nat) : Int) - 1)), some (.inl (j : Int)), some (.inl 0)] [] S0 (ov (wr g1 159 (j : Int) a))) := by
      intro a a0 a1 ea
      have fw := F159_wr g1 (j : Int) a
      refine m_322_i hi hN _ (j : Int) (by omega) (by omega) _ (s 1).toNat 0 a _ (by omega) (by omega) a0 a1 (RM_159 r fw) (fun T' h1 h2 => ?_) (rd_wr_eq _ _ _ _) (fun g2 f2 t2 q2 => ?_)
      · rw [rd_wr_if _ _ _ (by omega) (by omega), if_neg (by omega)]
        exact tl T' (by omega) h2
      · refine Ok_mono (ih g2 (by omega) (RM_159 (RM_159 r fw) f2) (fun T' h1 h2 => ?_)) ?_
        · by_cases e : T' = j
          · rw [e, q2, ea]
          · exact t2 T' (by omega) h2
        · rintro v g3 ⟨p1, p2⟩
          exact ⟨F159_tr fw (F159_tr f2 p1), p2⟩
    by_cases e : (j : Int) = ((2 ^ (s 1).toNat : Nat) : Int) - 1
    · rw [if_pos e]
      refine go 0 (by omega) (by omega) ?_
      rw [mnF_all _ _ _ _ _ (fun i h1 h2 => ?_)]
      · unfold leV
        rw [e, fu.1, show (s 1 - ((s 1).toNat : Int)).toNat = 0 by omega]
        rfl
      · have q := fu.2 ⟨i.toNat, by omega⟩ (by show i.toNat < (s 1).toNat; omega)
        simp only [show (i.toNat : Int) = i by omega] at q
        rw [e]; exact q
    · rw [if_neg e]
      refine go 1000000 (by omega) (by omega) ?_
      have c := cl (by omega)
      unfold leV
      rw [show (s 1 - cnF (j : Int) (s 1).toNat 0).toNat = (s 1 - cnF (j : Int) (s 1).toNat 0 - 1).toNat + 1 by omega, leF_s]
end
