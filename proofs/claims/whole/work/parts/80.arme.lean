/-! arms, armOf of the class; the bits of taken things -/
def qArms (s : Int → Int) (V o : Int) : Int × Int := if arC s V o then (if arN s V o = 1000000 then (-1, 6) else (arN s V o, 0)) else (-1, 1)
def qArmOf (s : Int → Int) (V o w : Int) : Int × Int := if arC s V o ∧ (0 ≤ w ∧ w < s 1) ∧ bi V w = 1 then (if arN s V o = 1000000 then (-1, 6) else (arW s V o w, 0)) else (-1, 1)
section
variable {X : Xs} {d : Nat} {g : Mem} {s : Int → Int} {N : Int}
theorem c_165 (r : RD g 19 s) (hi : Iv N s) {V o : Int} (hv : V < 2147483648) : AnC g (qArms s V o) (MI X (d + 10) 165 [.inr (.inr 1), .inl V, .inl o] S0 (ov g)) := by
  rw [e_165]
  simp only [↓K_top, ↓G_top, ↓P_top, ↓K_daw isD19, ↓oC_of (c_192 r hi hv), ↓if_b2i, ↓K_gif]
  unfold qArms
  by_cases h : arC s V o
  case neg =>
    rw [if_neg h, if_neg h]
    exact AnC_no (FC_rf g) 1
  rw [if_pos h, if_pos h]
  obtain ⟨h1, h2, h3⟩ := h
  have nb := arN_b hi (V := V) h1.1 h1.2
  refine Ok_bind (c_65 r hi h1.1 h1.2 h3) ?_
  rintro v g2 ⟨f2, bq, -⟩
  unfold Bq at bq
  simp only [↓K_top, ↓G_top, ↓P_top, ↓G_gif, bq]
  have q := AnC_orN (X := X) (d := d + 8) f2 (if arN s V o = 1000000 then -1 else arN s V o)
  have e : orN (if arN s V o = 1000000 then -1 else arN s V o) = (if arN s V o = 1000000 then (-1, 6) else (arN s V o, 0)) := by
    unfold orN
    by_cases z : arN s V o = 1000000
    · simp only [z, ↓reduceIte]
    · simp only [z, ↓reduceIte]
      rw [if_neg (by omega)]
  rw [e] at q
  exact q
theorem c_166 (r : RD g 19 s) (hi : Iv N s) {V o w : Int} (hv : V < 2147483648) : AnC g (qArmOf s V o w) (MI X (d + 10) 166 [.inr (.inr 1), .inl V, .inl o, .inl w] S0 (ov g)) := by
  have i3 := hi.2.2.2.1
  rw [e_166]
  simp only [↓K_top, ↓G_top, ↓P_top, ↓K_daw isD19, ↓oC_of (c_192 r hi hv), ↓oC_of (c_23 isD19 r _), ↓if_b2i, ↓K_gif, bi_d]
  unfold qArmOf
  by_cases h : arC s V o
  case neg =>
    rw [if_neg h, if_neg (fun z => h z.1)]
    exact AnC_no (FC_rf g) 1
  rw [if_pos h]
  by_cases hw : 0 ≤ w ∧ w < s 1
  case neg =>
    rw [if_neg hw, if_neg (fun z => hw z.2.1)]
    exact AnC_no (FC_rf g) 1
  rw [if_pos hw]
  have b01 := bi_01 V w
  by_cases hz : bi V w = 0
  · rw [if_pos hz, if_neg (fun z => by omega)]
    exact AnC_no (FC_rf g) 1
  have y : arC s V o ∧ (0 ≤ w ∧ w < s 1) ∧ bi V w = 1 := ⟨h, hw, by omega⟩
  rw [if_neg hz, if_pos y]
  obtain ⟨h1, h2, h3⟩ := h
  have nb := arN_b hi (V := V) h1.1 h1.2
  refine Ok_bind (c_65 r hi h1.1 h1.2 h3) ?_
  rintro v g2 ⟨f2, bq, aq⟩
  unfold Bq at bq
  simp only [↓K_top, ↓G_top, ↓P_top, ↓G_gif, bq]
  by_cases z : arN s V o = 1000000
  · have k1 : (if arN s V o = 1000000 then (-1 : Int) else arN s V o) = -1 := if_pos z
    rw [if_pos z, if_pos k1]
    exact AnC_no f2 6
  · have k2 : ¬ (if arN s V o = 1000000 then (-1 : Int) else arN s V o) = -1 := by rw [if_neg z]; omega
    rw [if_neg z, if_neg k2, al_135 X g2 hw.1 (by omega), aq z w hw.1 hw.2 y.2.2]
    exact AnC_tell f2 _
end
theorem shl_all : ∀ t : Fin 9, am_shl 1 (t.val : Int) = ((2 ^ t.val : Nat) : Int) := by decide +kernel
theorem shl_p {t : Int} (h0 : 0 ≤ t) (h1 : t ≤ 8) : am_shl 1 t = ((2 ^ t.toNat : Nat) : Int) := by
  have q := shl_all ⟨t.toNat, by omega⟩
  simp only [show (t.toNat : Int) = t by omega] at q
  exact q
theorem pow_256 {n : Nat} (h : n ≤ 8) : 2 ^ n ≤ 256 := Nat.pow_le_pow_right (n := 2) (by decide) h
theorem oI_b {T t : Int} {K : Nat} (hK : K ≤ 8) (h0 : 0 ≤ T) (h1 : T < ((2 ^ K : Nat) : Int)) (t0 : 0 ≤ t) (t1 : t < K) : 0 ≤ oI T t ∧ oI T t < ((2 ^ K : Nat) : Int) := by
  have p := pow_256 hK
  have p2 := pow_256 (n := t.toNat) (by omega)
  have q : 2 ^ t.toNat < 2 ^ K := Nat.pow_lt_pow_right (by decide) (by omega)
  have e := am_or_n T.toNat (2 ^ t.toNat) (by omega) (by omega)
  rw [show (T.toNat : Int) = T by omega] at e
  have l := Nat.or_lt_two_pow (x := T.toNat) (y := 2 ^ t.toNat) (n := K) (by omega) q
  unfold oI
  rw [shl_p t0 (by omega), e]
  omega
/-- the least is taken by one -/
theorem mnF_ex (T : Int) (f : Int → Int) (hf : ∀ t, f t ≤ 1000000) : ∀ (k : Nat) (t : Int), mnF T f k t 1000000 < 1000000 → t ≤ ff (fun x => decide (bi T x = 0 ∧ f x = mnF T f k t 1000000)) k t ∧ ff (fun x => decide (bi T x = 0 ∧ f x = mnF T f k t 1000000)) k t < t + k
  | 0, t, h => by exact absurd h (by show ¬ (1000000 : Int) < 1000000; omega)
  | k + 1, t, h => by
    by_cases hp : bi T t = 0 ∧ f t = mnF T f (k + 1) t 1000000
    · have e : ff (fun x => decide (bi T x = 0 ∧ f x = mnF T f (k + 1) t 1000000)) (k + 1) t = t := by
        show (bif decide (bi T t = 0 ∧ f t = mnF T f (k + 1) t 1000000) then t else _) = t
        rw [decide_eq_true hp, cond_true]
      rw [e]; omega
    · have e : ff (fun x => decide (bi T x = 0 ∧ f x = mnF T f (k + 1) t 1000000)) (k + 1) t = ff (fun x => decide (bi T x = 0 ∧ f x = mnF T f (k + 1) t 1000000)) k (t + 1) := by
        show (bif decide (bi T t = 0 ∧ f t = mnF T f (k + 1) t 1000000) then t else _) = _
        rw [decide_eq_false hp, cond_false]
      have m1 : mnF T f (k + 1) t 1000000 = mnF T f k (t + 1) 1000000 := by
        have b01 := bi_01 T t
        by_cases b : bi T t = 1
        · exact mnF_x T f k t b
        · have z := mnF_n T f k t (by omega) (hf t)
          rw [z] at hp h ⊢
          unfold am_min at hp h ⊢
          split at h <;> rename_i c
          · rw [if_pos c] at hp; omega
          · rw [if_neg c]
      rw [e, m1]
      rw [m1] at h
      have q := mnF_ex T f hf k (t + 1) h
      omega
