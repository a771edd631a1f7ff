/-! arms, armOf of the class -/
section
variable {X : Xs} {d : Nat} {g : Mem} {s : Int → Int} {N : Int}
theorem c_66 (hi : Iv N s) (o V : Int) (h3 : 0 ≤ o) (h4 : o < s 1) (hV : bi V o = 0) (K : Nat) (hK : (K : Int) = s 0) : ∀ (k : Nat) (m T sum B : Int) (g1 : Mem), m + k = s 1 → 0 ≤ m → Gq g1 s o V → Bq g1 B → oB B → 0 ≤ sum → sum ≤ 60 * m → Ok (fun _ g' => Dq s o V m sum (arF (fun m t => ndN s m o t) V K k m T) B (arA (fun m t => ndN s m o t) V K k m T) g1 g') (MI X (d + k + 1) 66 [.inr (.inr 134), .inl m, .inl T, .inl sum] S0 (ov g1)) := by
  have i1 := hi.2.1
  have i2 := hi.2.2.1
  have i3 := hi.2.2.2.1
  have hn : ∀ m t, -1 ≤ (fun m t => ndN s m o t) m t ∧ (fun m t => ndN s m o t) m t ≤ 60 := fun m t => ndN_r hi h3 h4 t
  intro k
  induction k with
  | zero =>
    intro m T sum B g1 hk m0 gq bq hB s0 s1
    have g4 := gq.1
    rw [e_66]
    have body : sum < B → Ok (fun _ g' => Dq s o V m sum (arF (fun m t => ndN s m o t) V K 0 m T) B (arA (fun m t => ndN s m o t) V K 0 m T) g1 g') (some (0, S0, ov (cp (wr g1 134 1 sum) 135 136 0 0 6))) := by
      intro lt
      have cpr : ∀ c i, 0 ≤ c → 0 ≤ i → c ≠ 135 → rd (cp (wr g1 134 1 sum) 135 136 0 0 6) c i = rd (wr g1 134 1 sum) c i := fun c i a b e => rd_cp_ne _ (by omega) a e
      refine Ok_some ⟨fun c i a b e f k => ?_, fun i a b => ?_, ?_, fun i a b c => ?_⟩
      · rw [cpr c i a b f]
        by_cases z : c = 134
        · subst z; exact rd_wr_ix g1 _ (by omega) b (by omega)
        · exact rd_wr_ne g1 1 i _ (by omega) a z
      · rw [cpr 136 i (by omega) a (by omega), rd_wr_ne _ _ _ _ (by omega) (by omega) (by omega)]
      · show Bq _ (mB B (sum + 0))
        unfold Bq mB
        rw [cpr 134 1 (by omega) (by omega) (by omega), rd_wr_eq, Int.add_zero, if_pos lt, if_neg (by omega)]
      · rw [show arF (fun m t => ndN s m o t) V K 0 m T = 0 from rfl, if_pos (show sum + 0 < B by omega), if_pos (show i < m by omega), rd_cp _ (by omega) (by omega) (by omega) (by omega) (by omega) a, if_pos (by omega), Int.sub_zero, Int.zero_add, rd_wr_ne _ _ _ _ (by omega) (by omega) (by omega)]
    simp only [↓G_gif, ↓P_gif, ↓acp_gif, g4]
    rw [if_neg (show ¬ m < s 1 by omega)]
    have bq' := bq
    unfold Bq at bq'
    rw [bq']
    by_cases hb : B = 1000000
    · rw [if_pos hb, if_pos rfl]
      exact body (by omega)
    · rw [if_neg hb, if_neg (by omega)]
      by_cases lt : sum < B
      · rw [if_pos lt]; exact body lt
      · rw [if_neg lt]
        refine Ok_some ⟨Fq_rf g1, fun _ _ _ => rfl, ?_, fun i a b c => ?_⟩
        · show Bq _ (mB B (sum + 0))
          unfold mB
          rw [if_neg (by omega)]; exact bq
        · exact (if_neg (show ¬ sum + 0 < B by omega)).symm
  | succ k ih =>
    intro m T sum B g1 hk m0 gq bq hB s0 s1
    have ab := arF_b hn V K (k + 1) (by omega) m T
    rw [e_66]
    have body : Ok (fun _ g' => Dq s o V m sum (arF (fun m t => ndN s m o t) V K (k + 1) m T) B (arA (fun m t => ndN s m o t) V K (k + 1) m T) g1 g') (if bi V m = 0 then oC (MI X (d + (k + 1)) 66 [.inr (.inr 134), .inl (m + 1), .inl T, .inl sum] S0 (ov g1)) fun r4 S4 m4 => some (0, S4, m4) else EI X (d + (k + 1) + 1) 66 70 [some (.inr (.inr 134)), some (.inl m), some (.inl T), some (.inl sum), some (.inl 0), none] [] S0 (ov g1)) := by
      by_cases hb : bi V m = 0
      · rw [if_pos hb, arF_s, if_neg (by omega)]
        refine Ok_bind (ih (m + 1) T sum B g1 (by omega) (by omega) gq bq hB s0 (by omega)) ?_
        rintro v g2 ⟨q1, q2, q3, q4⟩
        refine Ok_some ⟨q1, fun i a b => q2 i a (by omega), q3, fun i a b c => ?_⟩
        have z := q4 i a b (by omega)
        have im : i ≠ m → (i < m ↔ i < m + 1) := fun e => by omega
        rw [z, arA_s, if_neg (show ¬ bi V m = 1 by omega)]
        by_cases lt : sum + arF (fun m t => ndN s m o t) V K k (m + 1) T < B
        · rw [if_pos lt, if_pos lt]
          by_cases e : i < m
          · rw [if_pos e, if_pos (by omega)]
          · have ne : i ≠ m := fun z => by rw [z] at c; omega
            rw [if_neg e, if_neg (by omega)]
        · rw [if_neg lt, if_neg lt]
      · have hb1 : bi V m = 1 := by have := bi_01 V m; omega
        rw [if_neg hb]
        have q := c_66_l (X := X) (d := d) hi o V h3 h4 hV K hK k m T sum (by omega) m0 hb1 s0 s1 (fun T sum B g1 a b c e f => ih (m + 1) T sum B g1 (by omega) (by omega) a b c e f) K 0 B g1 (by omega) (by omega) gq bq hB
        have ea : arF (fun m t => ndN s m o t) V K (k + 1) m T = mnF T (arG (fun m t => ndN s m o t) V K k m T) K 0 1000000 := by rw [arF_s, if_pos hb1]
        refine Ok_mono q ?_
        rintro v g2 ⟨q1, q2, q3, q4⟩
        rw [← ea] at q3
        refine ⟨q1, q2, q3, fun i a b c => ?_⟩
        have z := q4 i a b c
        rw [← ea] at z
        rw [z, arA_s, if_pos hb1]
    simp only [↓G_gif, gq.1, gq.2.2.1, bi_d]
    rw [if_pos (show m < s 1 by omega), w32_id (x := m + 1) (by omega) (by omega)]
    have bq' := bq
    unfold Bq at bq'
    rw [bq']
    by_cases hb : B = 1000000
    · rw [if_pos hb, if_pos rfl]
      exact body
    · rw [if_neg hb, if_neg (by omega)]
      by_cases lt : sum < B
      · rw [if_pos lt]; exact body
      · rw [if_neg lt]
        refine Ok_some ⟨Fq_rf g1, fun _ _ _ => rfl, ?_, fun i a b c => ?_⟩
        · unfold mB
          rw [if_neg (by omega)]; exact bq
        · exact (if_neg (by omega)).symm
def F134 (g g' : Mem) : Prop := ∀ c i, 0 ≤ c → c ≠ 134 → rd g' c i = rd g c i
/-- the table of the search -/
def F137 (g g' : Mem) : Prop := ∀ c i, 0 ≤ c → c ≠ 137 → rd g' c i = rd g c i
def Q137 (s : Int → Int) (o m t : Int) (g : Mem) : Prop := ∀ i j, 0 ≤ i → i ≠ o → 0 ≤ j → j < s 0 → (i < m ∨ (i = m ∧ j < t)) → rd g 137 (i * 8 + j) = ndN s i o j
theorem RD_137 {g g1 : Mem} {s : Int → Int} (r : RD g 19 s) (f : F137 g g1) : RD g1 19 s := RD_fr r (fun c i y z => f c i (by omega) (by omega))
theorem c_65_i (hi : Iv N s) (o m : Int) (h3 : 0 ≤ o) (h4 : o < s 1) (m0 : 0 ≤ m) (m1 : m < s 1) (mo : m ≠ o) (P : Option Rs → Prop) : ∀ (k : Nat) (t : Int) (g1 : Mem), t + k = s 0 → 0 ≤ t → RD g1 19 s → rd g1 134 5 = s 0 → Q137 s o m t g1 → (∀ g2, F137 g1 g2 → Q137 s o (m + 1) 0 g2 → P (EI X (d + 2) 65 29 [some (.inr (.inr 134)), some (.inr (.inr 19)), none, some (.inl o), some (.inl (m + 1)), none] [] S0 (ov g2))) → P (EI X (d + 2) 65 41 [some (.inr (.inr 134)), some (.inr (.inr 19)), none, some (.inl o), some (.inl m), some (.inl t)] [] S0 (ov g1)) := by
  have i1 := hi.2.1
  have i3 := hi.2.2.2.1
  intro k
  induction k with
  | zero =>
    intro t g1 hk t0 r h5 q H
    rw [e_65_41, if_neg mo]
    simp only [↓G_gif, h5]
    rw [if_neg (show ¬ t < s 0 by omega), w32_id (by omega) (by omega)]
    exact H g1 (fun _ _ _ _ => rfl) (fun i j a b c e f => q i j a b c e (by omega))
  | succ k ih =>
    intro t g1 hk t0 r h5 q H
    rw [e_65_41, if_neg mo]
    simp only [↓G_gif, h5]
    rw [if_pos (show t < s 0 by omega), oC_of (c_55 isD19 r hi m o t m0 m1 h3 h4 (by omega) (by omega)), w32_id (x := m * 8) (by omega) (by omega), w32_id (x := m * 8 + t) (by omega) (by omega), as_137 g1 _ (by omega) (by omega), w32_id (x := t + 1) (by omega) (by omega)]
    have f : F137 g1 (wr g1 137 (m * 8 + t) (ndN s m o t)) := fun c i a e => rd_wr_ne g1 _ i _ (by omega) a e
    refine ih (t + 1) _ (by omega) (by omega) (RD_137 r f) ((f 134 5 (by omega) (by omega)).trans h5) (fun i j a b c e h => ?_) (fun g2 f2 q2 => H g2 (fun c i a e => (f2 c i a e).trans (f c i a e)) q2)
    rw [rd_wr_if _ _ _ (by omega) (by omega)]
    by_cases z : i = m ∧ j = t
    · obtain ⟨rfl, rfl⟩ := z
      rw [if_pos rfl]
    · rw [if_neg (by omega)]
      exact q i j a b c e (by omega)
theorem c_65_o (hi : Iv N s) (o : Int) (h3 : 0 ≤ o) (h4 : o < s 1) (P : Option Rs → Prop) : ∀ (k : Nat) (m : Int) (g1 : Mem), m + k = s 1 → 0 ≤ m → RD g1 19 s → rd g1 134 4 = s 1 → rd g1 134 5 = s 0 → Q137 s o m 0 g1 → (∀ g2, F137 g1 g2 → Q137 s o (s 1) 0 g2 → P (oC (MI X (d + 1) 66 [.inr (.inr 134), .inl 0, .inl 0, .inl 0] S0 (ov g2)) fun r2 S2 m2 => some (0, S2, m2))) → P (EI X (d + 2) 65 29 [some (.inr (.inr 134)), some (.inr (.inr 19)), none, some (.inl o), some (.inl m), none] [] S0 (ov g1)) := by
  have i0 := hi.1
  have i3 := hi.2.2.2.1
  intro k
  induction k with
  | zero =>
    intro m g1 hk m0 r h4' h5 q H
    rw [e_65_29]
    simp only [↓G_gif, h4']
    rw [if_neg (show ¬ m < s 1 by omega)]
    exact H g1 (fun _ _ _ _ => rfl) (fun i j a b c e f => q i j a b c e (by omega))
  | succ k ih =>
    intro m g1 hk m0 r h4' h5 q H
    rw [e_65_29]
    simp only [↓G_gif, h4']
    rw [if_pos (show m < s 1 by omega)]
    by_cases mo : m = o
    · rw [e_65_41, if_pos mo, w32_id (by omega) (by omega)]
      exact ih (m + 1) g1 (by omega) (by omega) r h4' h5 (fun i j a b c e f => q i j a b c e (by omega)) H
    · refine c_65_i hi o m h3 h4 m0 (by omega) mo P (s 0).toNat 0 g1 (by omega) (by omega) r h5 q (fun g2 f2 q2 => ?_)
      exact ih (m + 1) g2 (by omega) (by omega) (RD_137 r f2) ((f2 134 4 (by omega) (by omega)).trans h4') ((f2 134 5 (by omega) (by omega)).trans h5) q2 (fun g3 f3 q3 => H g3 (fun c i a e => (f3 c i a e).trans (f2 c i a e)) q3)
def arN (s : Int → Int) (V o : Int) : Int := arF (fun m t => ndN s m o t) V (s 0).toNat (s 1).toNat 0 0
def arW (s : Int → Int) (V o i : Int) : Int := arA (fun m t => ndN s m o t) V (s 0).toNat (s 1).toNat 0 0 i
theorem arN_b (hi : Iv N s) {V o : Int} (h3 : 0 ≤ o) (h4 : o < s 1) : (0 ≤ arN s V o ∧ arN s V o ≤ 360) ∨ arN s V o = 1000000 := by
  have i3 := hi.2.2.2.1
  have q := arF_b (nd := fun m t => ndN s m o t) (fun m t => ndN_r hi h3 h4 t) V (s 0).toNat (s 1).toNat (by omega) 0 0
  show (0 ≤ arF _ _ _ _ _ _ ∧ arF _ _ _ _ _ _ ≤ 360) ∨ arF _ _ _ _ _ _ = 1000000
  omega
theorem c_65 (r : RD g 19 s) (hi : Iv N s) {V o : Int} (h3 : 0 ≤ o) (h4 : o < s 1) (hV : bi V o = 0) : Ok (fun _ g' => FC g g' ∧ Bq g' (arN s V o) ∧ (arN s V o ≠ 1000000 → ∀ i, 0 ≤ i → i < s 1 → bi V i = 1 → rd g' 135 i = arW s V o i)) (MI X (d + 9) 65 [.inr (.inr 134), .inr (.inr 19), .inl V, .inl o] S0 (ov g)) := by
  have i0 := hi.1
  have i2 := hi.2.2.1
  have i3 := hi.2.2.2.1
  have hb := isD19
  have r0 := r.1
  have r1 := r.2.1
  have nb := arN_b hi (V := V) h3 h4
  rw [e_65]
  simp (disch := omega) only [↓G_daw hb, ↓P_gif, rd_wr_ne, r0, r1]
  have fw : F134 g (wr (wr (wr (wr g 134 4 (s 1)) 134 5 (s 0)) 134 6 V) 134 1 (-1)) := fun c i a b => by
    simp (disch := omega) only [rd_wr_ne]
  have rw1 : RD (wr (wr (wr (wr g 134 4 (s 1)) 134 5 (s 0)) 134 6 V) 134 1 (-1)) 19 s := RD_fr r (fun c i y z => fw c i (by omega) (by omega))
  refine c_65_o (d := d + 7) hi o h3 h4 (fun p => Ok _ p) (s 1).toNat 0 _ (by omega) (by omega) rw1 ?_ ?_ (fun i j a b c e f => by omega) (fun g2 f2 q2 => ?_)
  · simp (disch := omega) only [rd_wr_ix, rd_wr_eq]
  · simp (disch := omega) only [rd_wr_ix, rd_wr_eq]
  have gq : Gq g2 s o V := by
    unfold Gq
    rw [f2 134 4 (by omega) (by omega), f2 134 5 (by omega) (by omega), f2 134 6 (by omega) (by omega)]
    refine ⟨?_, ?_, ?_, fun m t a b c e f => q2 m t a c e f (Or.inl b)⟩ <;> simp (disch := omega) only [rd_wr_ix, rd_wr_eq]
  have bq : Bq g2 1000000 := by
    unfold Bq
    rw [f2 134 1 (by omega) (by omega), rd_wr_eq, if_pos rfl]
  have q := c_66 (X := X) (d := d + 7 - (s 1).toNat) hi o V h3 h4 hV (s 0).toNat (by omega) (s 1).toNat 0 0 0 1000000 g2 (by omega) (by omega) gq bq (Or.inl rfl) (by omega) (by omega)
  rw [show d + 7 - (s 1).toNat + (s 1).toNat + 1 = d + 7 + 1 by omega] at q
  refine Ok_bind q ?_
  rintro v g3 ⟨p1, p2, p3, p4⟩
  rw [Int.zero_add] at p3 p4
  refine Ok_some ⟨fun c i a b e f => ?_, ?_, fun h i a b c => ?_⟩
  · have n : ¬ (125 ≤ c ∧ c ≤ 140) := fun z => e (Or.inl z)
    rw [p1 c i a b (by omega) (by omega) (by omega), f2 c i a (by omega), fw c i a (by omega)]
  · have e : mB 1000000 (arF (fun m t => ndN s m o t) V (s 0).toNat (s 1).toNat 0 0) = arN s V o := by
      show mB 1000000 (arN s V o) = arN s V o
      unfold mB
      split <;> omega
    rw [← e]; exact p3
  · have z := p4 i a b (Or.inr c)
    have lt : arF (fun m t => ndN s m o t) V (s 0).toNat (s 1).toNat 0 0 < 1000000 := by
      show arN s V o < 1000000
      omega
    rw [if_pos lt, if_neg (by omega)] at z
    exact z
end
