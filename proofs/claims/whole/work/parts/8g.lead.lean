/-! the least hurt of the class: the search -/
abbrev oN (N B : Int) : Prop := B = 1000000 ∨ (0 ≤ B ∧ B ≤ N)
theorem acp_ord (X : Xs) (g : Mem) {A : Type} (n : A) (f : Mem → A) : oK (acp X S0 (ov g) 140 0 139 0 6) n f = f (ov (cp g 139 140 0 0 6)) := by
  rw [acp_pos X g (K := 20) (lr := 6) (lq := 6) (Or.inl rfl) (by decide) rfl rfl rfl rfl (fun _ => rfl) (fun _ => rfl) (by decide) (by decide) (by decide) (by decide) (by decide)]
  rfl
theorem RD_Fo {g g1 : Mem} {s : Int → Int} (r : RD g 19 s) (f : Fo g g1) (fn : ∀ i, i < 0 → ∀ c, 19 ≤ c → c ≤ 29 → rd g1 c i = rd g c i) : RD g1 19 s := RD_fr r (fun c i y z => by
  by_cases h : 0 ≤ i
  · exact f c i (by omega) h (by omega) (by omega) (by omega)
  · exact fn i (by omega) c y (by omega))
/-- what the search from p on leaves -/
def Do (s : Int → Int) (p : Nat) (sum M B : Int) (A : Int → Int) (g1 g' : Mem) : Prop :=
  (∀ c i, 0 ≤ c → (c < 138 ∨ 140 < c) → rd g' c i = rd g1 c i) ∧ (∀ i : Int, 0 ≤ i → i < p → rd g' 140 i = rd g1 140 i) ∧ Bo g' (mB B (sum + M)) ∧ (∀ i : Int, 0 ≤ i → i < s 1 → rd g' 139 i = if sum + M < B then (if i < p then rd g1 140 i else A i) else rd g1 139 i)
theorem RD_Do {g g1 : Mem} {s : Int → Int} (r : RD g 19 s) (f : ∀ c i, 0 ≤ c → (c < 138 ∨ 140 < c) → rd g1 c i = rd g c i) : RD g1 19 s := RD_fr r (fun c i y z => f c i (by omega) (by omega))
section
variable {X : Xs} {d : Nat} {g : Mem} {s : Int → Int} {N : Int}
theorem c_78_l (hi : Iv N s) (hN : N < 1000000) (k p : Nat) (T sum : Int) (hp : (p : Int) + k + 1 = s 1) (T0 : 0 ≤ T) (T1 : T < ((2 ^ (s 1).toNat : Nat) : Int)) (hc : cnF T (s 1).toNat 0 = p) (s0 : 0 ≤ sum) (s1 : sum ≤ tlF s T (s 1).toNat 0)
    (ihD : ∀ (T sum B : Int) (g1 : Mem), RD g1 19 s → 0 ≤ T → T < ((2 ^ (s 1).toNat : Nat) : Int) → cnF T (s 1).toNat 0 = (p + 1 : Nat) → Ho s g1 T (p + 1) → Bo g1 B → oN N B → 0 ≤ sum → sum ≤ tlF s T (s 1).toNat 0 → Ok (fun _ g' => Do s (p + 1) sum (leF s k T) B (leA s k T) g1 g') (MI X (d + k + 1) 78 [.inr (.inr 138), .inr (.inr 19), .inl ((p + 1 : Nat) : Int), .inl T, .inl sum] S0 (ov g1))) :
    ∀ (k2 : Nat) (t B : Int) (g1 : Mem), t + k2 = s 1 → 0 ≤ t → RD g1 19 s → Ho s g1 T p → Bo g1 B → oN N B → Ok (fun _ g' => Do s p sum (mnF T (leG s k T) k2 t 1000000) B (fun i => if i = p then leT s k T (mnF T (leG s k T) k2 t 1000000) k2 t else leA s k (oI T (leT s k T (mnF T (leG s k T) k2 t 1000000) k2 t)) i) g1 g') (EI X (d + k + 2) 78 51 [some (.inr (.inr 138)), some (.inr (.inr 19)), some (.inl (p : Int)), some (.inl T), some (.inl sum), some (.inl t), none] [] S0 (ov g1)) := by
  have hb := isD19
  have i2 := hi.2.2.1
  have i3 := hi.2.2.2.1
  have p6 := pow_64 (n := (s 1).toNat) (by omega)
  have tN := tl_N hi T
  intro k2
  induction k2 with
  | zero =>
    intro t B g1 hk t0 r ho bo hB
    have r1 := r.2.1
    rw [e_78_51]
    simp only [↓G_daw hb, r1]
    rw [if_neg (show ¬ t < s 1 by omega)]
    refine Ok_some ⟨fun _ _ _ _ => rfl, fun _ _ _ => rfl, ?_, fun i a b => ?_⟩
    · show Bo g1 (mB B (sum + 1000000))
      unfold mB
      rw [if_neg (by omega)]
      exact bo
    · exact (if_neg (show ¬ sum + 1000000 < B by omega)).symm
  | succ k2 ih =>
    intro t B g1 hk t0 r ho bo hB
    have r1 := r.2.1
    have b01 := bi_01 T t
    have M1 := mnF_le T (leG s k T) k2 (t + 1) 1000000
    rw [e_78_51]
    simp only [↓G_daw hb, r1]
    rw [if_pos (show t < s 1 by omega), w32_id (x := t + 1) (by omega) (by omega)]
    by_cases hT : bi T t = 0
    case neg =>
      have hT1 : bi T t = 1 := by omega
      rw [if_neg (show ¬ am_and (am_shr T t) 1 = 0 from hT), mnF_x _ _ _ _ hT1, leT_x (fun z => hT z.1)]
      exact ih (t + 1) B g1 (by omega) (by omega) r ho bo hB
    have ob := oI_b (T := T) (t := t) (K := (s 1).toNat) (by omega) T0 T1 t0 (by omega)
    have ca := cnF_add (T := T) (t := t) T0 (by omega) t0 hT (s 1).toNat 0 (by omega) (by omega) t0 (by omega)
    have ta := tlF_add s (T := T) (t := t) T0 (by omega) t0 hT (s 1).toNat 0 (by omega) (by omega) t0 (by omega)
    have lb := leF_b hi k (oI T t) ob.1 ob.2 (by omega)
    have ln := leF_nn hi k (oI T t)
    have tn := tl_N hi (oI T t)
    have hu := hu_lo hi T t t0 (by omega)
    have eg : leG s k T t = huF s T t (s 1).toNat 0 + leF s k (oI T t) := rfl
    rw [if_pos (show am_and (am_shr T t) 1 = 0 from hT), mnF_n _ _ _ _ hT (by omega)]
    simp (disch := omega) only [↓G_ord, ↓as_140, ↓K_ord]
    have fw : ∀ c i, 0 ≤ c → (c < 138 ∨ 140 < c) → rd (wr g1 140 p t) c i = rd g1 c i := fun c i a e => rd_wr_ne g1 p i t (by omega) a (by omega)
    have fwi : ∀ i : Int, 0 ≤ i → i < p → rd (wr g1 140 p t) 140 i = rd g1 140 i := fun i a b => rd_wr_ix g1 _ (by omega) a (by omega)
    have hw : Ho s (wr g1 140 p t) T p := by
      refine ⟨fun i a b => by rw [fwi i a b]; exact ho.1 i a b, fun m a b => ?_⟩
      rw [← ho.2 m a b]
      refine su_congr _ _ _ _ (fun i x y => ?_)
      show mn s (rd (wr g1 140 p t) 140 i) (4 + m) = mn s (rd g1 140 i) (4 + m)
      rw [fwi i x (by omega)]
    have how : Ho s (wr g1 140 p t) (oI T t) (p + 1) := Ho_add ho i3 T0 (by omega) t0 (by omega) hT fwi (rd_wr_eq _ _ _ _)
    have bow : Bo (wr g1 140 p t) B := by
      unfold Bo
      rw [rd_wr_ne g1 p 1 t (by omega) (by omega) (by omega)]
      exact bo
    rw [oC_of (c_79 (d := d + k) (RD_Do r fw) hi hN (T := T) (m := t) (p := p) (by omega) hw (rd_wr_eq _ _ _ _) t0 (by omega)), show am_or T (am_shl 1 t) = oI T t from rfl, w32_id (x := (p : Int) + 1) (by omega) (by omega), w32_id (x := sum + huF s T t (s 1).toNat 0) (by omega) (by omega)]
    refine Ok_bind (ihD (oI T t) (sum + huF s T t (s 1).toNat 0) B _ (RD_Do r fw) ob.1 ob.2 (by omega) how bow hB (by omega) (by omega)) ?_
    rintro v g3 ⟨q1, q2, q3, q4⟩
    have f3 : ∀ c i, 0 ≤ c → (c < 138 ∨ 140 < c) → rd g3 c i = rd g1 c i := fun c i a e => (q1 c i a e).trans (fw c i a e)
    have w1 : ∀ i : Int, 0 ≤ i → i < p → rd g3 140 i = rd g1 140 i := fun i a h => by rw [q2 i a (by omega), fwi i a h]
    have h3' : Ho s g3 T p := by
      refine ⟨fun i a b => by rw [w1 i a b]; exact ho.1 i a b, fun m a b => ?_⟩
      rw [← ho.2 m a b]
      refine su_congr _ _ _ _ (fun i x y => ?_)
      show mn s (rd g3 140 i) (4 + m) = mn s (rd g1 140 i) (4 + m)
      rw [w1 i x (by omega)]
    have hB3 : oN N (mB B (sum + huF s T t (s 1).toNat 0 + leF s k (oI T t))) := by
      unfold mB
      split <;> omega
    refine Ok_mono (ih (t + 1) _ g3 (by omega) (by omega) (RD_Do r f3) h3' q3 hB3) ?_
    rintro v2 g4 ⟨p1, p2, p3, p4⟩
    refine ⟨fun c i a e => (p1 c i a e).trans (f3 c i a e), fun i a b => ?_, ?_, fun i a b => ?_⟩
    · rw [p2 i a b, w1 i a b]
    · have e8 : mB (mB B (sum + huF s T t (s 1).toNat 0 + leF s k (oI T t))) (sum + mnF T (leG s k T) k2 (t + 1) 1000000) = mB B (sum + am_min (leG s k T t) (mnF T (leG s k T) k2 (t + 1) 1000000)) := by
        rw [eg]
        unfold mB am_min
        (repeat' split) <;> omega
      rw [← e8]
      exact p3
    · have z1 := p4 i a b
      have z2 := q4 i a b
      have w2 : rd (wr g1 140 p t) 139 i = rd g1 139 i := rd_wr_ne g1 p i t (by omega) (by omega) (by omega)
      have w4 : rd (wr g1 140 p t) 140 p = t := rd_wr_eq _ _ _ _
      by_cases c1 : sum + mnF T (leG s k T) k2 (t + 1) 1000000 < mB B (sum + huF s T t (s 1).toNat 0 + leF s k (oI T t))
      · rw [if_pos c1] at z1
        have lt : mnF T (leG s k T) k2 (t + 1) 1000000 < leG s k T t ∧ sum + mnF T (leG s k T) k2 (t + 1) 1000000 < B := by
          rw [eg]
          unfold mB at c1
          split at c1 <;> omega
        have e9 : am_min (leG s k T t) (mnF T (leG s k T) k2 (t + 1) 1000000) = mnF T (leG s k T) k2 (t + 1) 1000000 := by
          unfold am_min; rw [if_neg (by omega)]
        rw [e9, if_pos lt.2, z1, leT_x (n := k2) (fun z => by omega)]
        by_cases im : i < p
        · rw [if_pos im, if_pos im, w1 i a im]
        · rw [if_neg im, if_neg im]
      · rw [if_neg c1] at z1
        rw [z1, z2]
        by_cases c2 : sum + huF s T t (s 1).toNat 0 + leF s k (oI T t) < B
        · have e9 : am_min (leG s k T t) (mnF T (leG s k T) k2 (t + 1) 1000000) = leG s k T t ∧ sum + leG s k T t < B := by
            unfold mB at c1
            rw [if_pos c2] at c1
            rw [eg]
            unfold am_min
            (repeat' split) <;> omega
          rw [e9.1, if_pos c2, if_pos e9.2, leT_t ⟨hT, rfl⟩]
          by_cases im : i < p
          · rw [if_pos (by omega), if_pos im, fwi i a im]
          · rw [if_neg im]
            by_cases ie : i = p
            · rw [if_pos (by omega)]
              show _ = (if i = p then t else _)
              rw [if_pos ie, ie, w4]
            · rw [if_neg (by omega)]
              show _ = (if i = p then t else _)
              rw [if_neg ie]
        · have e9 : ¬ sum + am_min (leG s k T t) (mnF T (leG s k T) k2 (t + 1) 1000000) < B := by
            unfold mB at c1
            rw [if_neg c2] at c1
            rw [eg]
            unfold am_min
            (repeat' split) <;> omega
          rw [if_neg c2, if_neg e9, w2]
end
