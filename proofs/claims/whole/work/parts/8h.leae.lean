/-! the least hurt told by the class -/
section
variable {X : Xs} {d : Nat} {g : Mem} {s : Int → Int} {N : Int}
theorem c_78 (hi : Iv N s) (hN : N < 1000000) : ∀ (k p : Nat) (T sum B : Int) (g1 : Mem), (p : Int) + k = s 1 → RD g1 19 s → 0 ≤ T → T < ((2 ^ (s 1).toNat : Nat) : Int) → cnF T (s 1).toNat 0 = p → Ho s g1 T p → Bo g1 B → oN N B → 0 ≤ sum → sum ≤ tlF s T (s 1).toNat 0 → Ok (fun _ g' => Do s p sum (leF s k T) B (leA s k T) g1 g') (MI X (d + k + 1) 78 [.inr (.inr 138), .inr (.inr 19), .inl (p : Int), .inl T, .inl sum] S0 (ov g1)) := by
  have hb := isD19
  have i2 := hi.2.2.1
  have i3 := hi.2.2.2.1
  intro k
  induction k with
  | zero =>
    intro p T sum B g1 hp r T0 T1 hc ho bo hB s0 s1
    have r1 := r.2.1
    have tN := tl_N hi T
    rw [e_78]
    have body : sum < B → Ok (fun _ g' => Do s p sum (leF s 0 T) B (leA s 0 T) g1 g') (some (0, S0, ov (cp (wr g1 138 1 sum) 139 140 0 0 6))) := by
      intro lt
      have cpr : ∀ c i, 0 ≤ c → c ≠ 139 → rd (cp (wr g1 138 1 sum) 139 140 0 0 6) c i = rd (wr g1 138 1 sum) c i := fun c i a e => rd_cp_ne _ (by omega) a e
      refine Ok_some ⟨fun c i a e => ?_, fun i a b => ?_, ?_, fun i a b => ?_⟩
      · rw [cpr c i a (by omega), rd_wr_ne g1 1 i _ (by omega) a (by omega)]
      · rw [cpr 140 i (by omega) (by omega), rd_wr_ne _ _ _ _ (by omega) (by omega) (by omega)]
      · show Bo _ (mB B (sum + 0))
        unfold Bo mB
        rw [cpr 138 1 (by omega) (by omega), rd_wr_eq, Int.add_zero, if_pos lt, if_neg (by omega)]
      · rw [show leF s 0 T = 0 from rfl, if_pos (show sum + 0 < B by omega), if_pos (show i < p by omega), rd_cp _ (by omega) (by omega) (by omega) (by omega) (by omega) a, if_pos (by omega), Int.sub_zero, Int.zero_add, rd_wr_ne _ _ _ _ (by omega) (by omega) (by omega)]
    simp only [↓G_ord, ↓P_ord, ↓acp_ord, ↓G_daw hb, r1]
    rw [if_neg (show ¬ (p : Int) < s 1 by omega)]
    have bo' := bo
    unfold Bo at bo'
    rw [bo']
    by_cases hb : B = 1000000
    · rw [if_pos hb, if_pos rfl]
      exact body (by omega)
    · rw [if_neg hb, if_neg (by omega)]
      by_cases lt : sum < B
      · rw [if_pos lt]; exact body lt
      · rw [if_neg lt]
        refine Ok_some ⟨fun _ _ _ _ => rfl, fun _ _ _ => rfl, ?_, fun i a b => ?_⟩
        · show Bo _ (mB B (sum + 0))
          unfold mB
          rw [if_neg (by omega)]; exact bo
        · exact (if_neg (show ¬ sum + 0 < B by omega)).symm
  | succ k ih =>
    intro p T sum B g1 hp r T0 T1 hc ho bo hB s0 s1
    have r1 := r.2.1
    have ln := leF_nn hi (k + 1) T
    rw [e_78]
    have body : Ok (fun _ g' => Do s p sum (leF s (k + 1) T) B (leA s (k + 1) T) g1 g') (EI X (d + (k + 1) + 1) 78 51 [some (.inr (.inr 138)), some (.inr (.inr 19)), some (.inl (p : Int)), some (.inl T), some (.inl sum), some (.inl 0), none] [] S0 (ov g1)) := by
      have q := c_78_l (X := X) (d := d) hi hN k p T sum (by omega) T0 T1 hc s0 s1 (fun T sum B g1 a b c e f h i j l => ih (p + 1) T sum B g1 (by omega) a b c e f h i j l) (s 1).toNat 0 B g1 (by omega) (by omega) r ho bo hB
      refine Ok_mono q ?_
      rintro v g2 ⟨q1, q2, q3, q4⟩
      refine ⟨q1, q2, q3, fun i a b => ?_⟩
      have z := q4 i a b
      rw [z, leA_s, show s 1 - ((k + 1 : Nat) : Int) = (p : Int) by omega]
      rfl
    simp only [↓G_ord, ↓G_daw hb, r1]
    rw [if_pos (show (p : Int) < s 1 by omega)]
    have bo' := bo
    unfold Bo at bo'
    rw [bo']
    by_cases hb : B = 1000000
    · rw [if_pos hb, if_pos rfl]
      exact body
    · rw [if_neg hb, if_neg (by omega)]
      by_cases lt : sum < B
      · rw [if_pos lt]; exact body
      · rw [if_neg lt]
        refine Ok_some ⟨fun _ _ _ _ => rfl, fun _ _ _ => rfl, ?_, fun i a b => ?_⟩
        · unfold mB
          rw [if_neg (by omega)]; exact bo
        · exact (if_neg (by omega)).symm
theorem le_N (hi : Iv N s) : 0 ≤ leN s ∧ leN s ≤ N := by
  have i2 := hi.2.2.1
  have i3 := hi.2.2.2.1
  have p0 : 0 < 2 ^ (s 1).toNat := Nat.two_pow_pos _
  have a := leF_nn hi (s 1).toNat 0
  have b := leF_b hi (s 1).toNat 0 (by omega) (by omega) (by rw [cn_nul (s 1).toNat (by omega)]; omega)
  have c := tl_N hi 0
  unfold leN
  omega
theorem hu_nul (s : Int → Int) (m : Int) : ∀ (k : Nat) (i : Int), 0 ≤ i → i + k ≤ 6 → huF s 0 m k i = 0
  | 0, _, _, _ => rfl
  | k + 1, i, i0, h => by
    rw [huF_s, bi_hi (K := 0) (v := 0) (t := i) (by omega) (by decide) (by omega) (by omega) (by omega), if_neg (by omega), hu_nul s m k (i + 1) (by omega) (by omega)]
    rfl
theorem c_77 (r : RD g 19 s) (hi : Iv N s) (hN : N < 1000000) : Ok (fun _ g' => FC g g' ∧ rd g' 138 1 = leN s ∧ ∀ i : Int, 0 ≤ i → i < s 1 → rd g' 139 i = leA s (s 1).toNat 0 i) (MI X (d + 8) 77 [.inr (.inr 138), .inr (.inr 19)] S0 (ov g)) := by
  have i2 := hi.2.2.1
  have i3 := hi.2.2.2.1
  have p0 : 0 < 2 ^ (s 1).toNat := Nat.two_pow_pos _
  have lN := le_N hi
  have tN := tl_N hi 0
  rw [e_77]
  simp only [↓P_ord]
  have fw : ∀ c i, 0 ≤ c → (c < 138 ∨ 140 < c) → rd (wr g 138 1 (-1)) c i = rd g c i := fun c i a e => rd_wr_ne g 1 i _ (by omega) a (by omega)
  have q := c_78 (X := X) (d := d + 6 - (s 1).toNat) hi hN (s 1).toNat 0 0 0 1000000 (wr g 138 1 (-1)) (by omega) (RD_Do r fw) (by omega) (by omega) (by rw [cn_nul (s 1).toNat (by omega)]; rfl) ⟨fun i a b => by omega, fun m a b => by rw [hu_nul s m (s 1).toNat 0 (by omega) (by omega)]; rfl⟩ (by unfold Bo; rw [rd_wr_eq, if_pos rfl]) (Or.inl rfl) (by omega) tN.1
  rw [show d + 6 - (s 1).toNat + (s 1).toNat + 1 = d + 7 by omega] at q
  refine Ok_bind q ?_
  rintro v g3 ⟨p1, p2, p3, p4⟩
  rw [Int.zero_add] at p3 p4
  have e : leF s (s 1).toNat 0 = leN s := rfl
  rw [e] at p3 p4
  have lt : leN s < 1000000 := by omega
  refine Ok_some ⟨fun c i a b h f => ?_, ?_, fun i a b => ?_⟩
  · have n : ¬ (125 ≤ c ∧ c ≤ 140) := fun z => h (Or.inl z)
    rw [p1 c i a (by omega), fw c i a (by omega)]
  · unfold Bo mB at p3
    rw [if_pos lt, if_neg (by omega)] at p3
    exact p3
  · have z := p4 i a b
    rw [if_pos lt, if_neg (by omega)] at z
    exact z
theorem c_173 (r : RD g 19 s) (hi : Iv N s) (hN : N < 1000000) : AnC g (qLeast s) (MI X (d + 9) 173 [.inr (.inr 1)] S0 (ov g)) := by
  rw [e_173]
  simp only [↓K_top, ↓G_top, ↓P_top, ↓K_ord]
  refine Ok_bind (c_77 r hi hN) ?_
  rintro v g2 ⟨f2, e1, -⟩
  simp only [↓K_top, ↓G_top, ↓P_top, ↓G_ord, e1]
  exact AnC_tell f2 _
end
