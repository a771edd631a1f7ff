/-! LIVING: the class walks; blocks of STEPS in both -/
def cmB (v C n : Int) : Bool := if C = 60 then decide (v < n) else if C = 62 then decide (n < v) else decide (v = n)
def tsB (s : Int → Int) (T C A Z : Int) : Bool := if T = 10 then cmB (mn s A 1) C Z else if T = 20 then cmB (neN s) C Z else if T = 21 then decide (th s A 2 ≤ th s A 3) else decide (s 6 ≠ -1)
abbrev okI (n1 W A O Z : Int) : Prop := 12 ≤ W ∧ W ≤ 18 ∧ (W = 12 → 0 ≤ A ∧ A < n1 ∧ 0 ≤ O ∧ O < n1) ∧ (W = 17 → 0 ≤ A ∧ A < n1 ∧ 1 ≤ Z ∧ Z ≤ 60)
abbrev okO (n0 n1 W T A Z : Int) : Prop := (W = 23 ∧ 1 ≤ Z ∧ Z ≤ 99) ∨ (W = 19 ∧ (T = 20 ∨ (T = 10 ∧ 0 ≤ A ∧ A < n1) ∨ (T = 21 ∧ 0 ≤ A ∧ A < n0) ∨ T = 22))
/-- a row of the model tells this STEP -/
abbrev mS (R : Int → Int) (W A O Z : Int) : Prop := R 0 = W ∧ (W = 12 → R 1 = A ∧ R 2 = O) ∧ (W = 17 → R 1 = A ∧ R 2 = Z)
abbrev mO (R : Int → Int) (W T C A Z : Int) : Prop := (W = 23 → R 0 = 20 ∧ R 1 = Z) ∧ (W = 19 → (T = 20 → R 0 = 1923 ∧ R 5 = C ∧ R 2 = Z) ∧ (T = 10 → R 0 = 1910 ∧ R 1 = A ∧ R 5 = C ∧ R 2 = Z) ∧ (T = 21 → R 0 = 1924 ∧ R 1 = A) ∧ (T = 22 → R 0 = 1925))
/-- STEPS i .. j of the class (cw: 0 word, 1 test, 2 compare, 3 who, 4 other, 5 number, 6 behind) are the rows p .. q of the model, D blocks deep -/
def Blk (n0 n1 : Int) (cw R : Int → Int → Int) : Nat → Int → Int → Int → Int → Int → Prop
  | 0, _, i, j, p, q => i = j ∧ p = q
  | f + 1, D, i, j, p, q => (i = j ∧ p = q) ∨
    (cw 6 i = i + 1 ∧ ((cw 0 i = 25 ∧ R p 0 = 22) ∨ (okI n1 (cw 0 i) (cw 3 i) (cw 4 i) (cw 5 i) ∧ mS (R p) (cw 0 i) (cw 3 i) (cw 4 i) (cw 5 i))) ∧ Blk n0 n1 cw R f D (i + 1) j (p + 1) q) ∨
    (D < 3 ∧ okO n0 n1 (cw 0 i) (cw 1 i) (cw 3 i) (cw 5 i) ∧ mO (R p) (cw 0 i) (cw 1 i) (cw 2 i) (cw 3 i) (cw 5 i) ∧ ∃ p', R p 4 = p' ∧ R p' 0 = 21 ∧ R p' 4 = p ∧ Blk n0 n1 cw R f (D + 1) (i + 1) (cw 6 i) (p + 1) p' ∧ Blk n0 n1 cw R f D (cw 6 i) j (p' + 1) q)
theorem Blk_le {n0 n1 : Int} {cw R : Int → Int → Int} : ∀ (f : Nat) (D i j p q : Int), Blk n0 n1 cw R f D i j p q → i ≤ j ∧ p ≤ q
  | 0, D, i, j, p, q, h => by
    obtain ⟨h1, h2⟩ := h
    omega
  | f + 1, D, i, j, p, q, h => by
    rcases h with ⟨h1, h2⟩ | ⟨h1, h2, h3⟩ | ⟨h1, h2, h3, p', h4, h5, h6, h7, h8⟩
    · omega
    · have := Blk_le f _ _ _ _ _ h3
      omega
    · have a := Blk_le f _ _ _ _ _ h7
      have b := Blk_le f _ _ _ _ _ h8
      omega
abbrev Sg : Type := (Int → Int) × (Int → Int)
def wkI (w : Sg → Bool × Sg) : Nat → Sg → Bool × Sg
  | 0, x => (true, x)
  | t + 1, x => if (w x).1 = true then wkI w t (w x).2 else w x
theorem wkI_s (w : Sg → Bool × Sg) (t : Nat) (x : Sg) : wkI w (t + 1) x = if (w x).1 = true then wkI w t (w x).2 else w x := rfl
def wkT (s : Int → Int) (W T C A Z : Int) : Nat := if W = 23 then Z.toNat else if tsB s T C A Z = true then 1 else 0
def wk (cw : Int → Int → Int) : Nat → Int → Int → Sg → Bool × Sg
  | 0, _, _, x => (true, x)
  | f + 1, i, j, x => if i < j then (
      if 300 ≤ x.2 3 then (false, x.1, us x.2 8 1)
      else if cw 0 i = 25 then (false, x.1, us x.2 3 (x.2 3 + 1))
      else if cw 0 i = 23 ∨ cw 0 i = 19 then (
        if (wkI (wk cw f (i + 1) (cw 6 i)) (wkT x.1 (cw 0 i) (cw 1 i) (cw 2 i) (cw 3 i) (cw 5 i)) (x.1, us x.2 3 (x.2 3 + 1))).1 = true
        then wk cw f (cw 6 i) j (wkI (wk cw f (i + 1) (cw 6 i)) (wkT x.1 (cw 0 i) (cw 1 i) (cw 2 i) (cw 3 i) (cw 5 i)) (x.1, us x.2 3 (x.2 3 + 1))).2
        else wkI (wk cw f (i + 1) (cw 6 i)) (wkT x.1 (cw 0 i) (cw 1 i) (cw 2 i) (cw 3 i) (cw 5 i)) (x.1, us x.2 3 (x.2 3 + 1)))
      else wk cw f (i + 1) j (doS x.1 (us x.2 3 (x.2 3 + 1)) (cw 0 i) (cw 3 i) (cw 4 i) (cw 5 i), doC x.1 (us x.2 3 (x.2 3 + 1)) (cw 0 i) (cw 3 i) (cw 4 i) (cw 5 i)))
    else (true, x)
theorem wk_s (cw : Int → Int → Int) (f : Nat) (i j : Int) (x : Sg) : wk cw (f + 1) i j x = if i < j then (
      if 300 ≤ x.2 3 then (false, x.1, us x.2 8 1)
      else if cw 0 i = 25 then (false, x.1, us x.2 3 (x.2 3 + 1))
      else if cw 0 i = 23 ∨ cw 0 i = 19 then (
        if (wkI (wk cw f (i + 1) (cw 6 i)) (wkT x.1 (cw 0 i) (cw 1 i) (cw 2 i) (cw 3 i) (cw 5 i)) (x.1, us x.2 3 (x.2 3 + 1))).1 = true
        then wk cw f (cw 6 i) j (wkI (wk cw f (i + 1) (cw 6 i)) (wkT x.1 (cw 0 i) (cw 1 i) (cw 2 i) (cw 3 i) (cw 5 i)) (x.1, us x.2 3 (x.2 3 + 1))).2
        else wkI (wk cw f (i + 1) (cw 6 i)) (wkT x.1 (cw 0 i) (cw 1 i) (cw 2 i) (cw 3 i) (cw 5 i)) (x.1, us x.2 3 (x.2 3 + 1)))
      else wk cw f (i + 1) j (doS x.1 (us x.2 3 (x.2 3 + 1)) (cw 0 i) (cw 3 i) (cw 4 i) (cw 5 i), doC x.1 (us x.2 3 (x.2 3 + 1)) (cw 0 i) (cw 3 i) (cw 4 i) (cw 5 i)))
    else (true, x) := rfl
/-- what stays while YEARS are LIVED -/
def WI (N n0 n1 : Int) (x : Sg) : Prop := Iv (N + x.2 3) x.1 ∧ IL (x.2 3) x.2 ∧ 0 ≤ x.2 3 ∧ x.2 3 ≤ 300 ∧ x.1 0 = n0 ∧ x.1 1 = n1
section
variable {X : Xs} {d : Nat} {g : Mem} {s c : Int → Int} {b L N M n0 n1 : Int}
theorem WI_st {x : Sg} (h : WI N n0 n1 x) (hN : N + 300 < 800000) (h3 : x.2 3 < 300) {W A O Z : Int} (ok : okI n1 W A O Z) : WI N n0 n1 (doS x.1 (us x.2 3 (x.2 3 + 1)) W A O Z, doC x.1 (us x.2 3 (x.2 3 + 1)) W A O Z) := by
  obtain ⟨a1, a2, a3, a4, a5, a6⟩ := h
  obtain ⟨w1, w2, w3, w4⟩ := ok
  have ok' : okS x.1 W A O Z := ⟨w1, w2, by rw [a6]; exact w3, by rw [a6]; exact w4⟩
  have il : IL (x.2 3) (us x.2 3 (x.2 3 + 1)) := by
    unfold IL at *
    simp (disch := omega) only [us_ne]
    exact a2
  have i1 := Iv_do (c := us x.2 3 (x.2 3 + 1)) a1 (by omega) ok'
  have i2 := IL_do a1 (by omega) il W A O Z
  have k := do_k (c := us x.2 3 (x.2 3 + 1)) a1 (by omega) ok'
  have e3 : doC x.1 (us x.2 3 (x.2 3 + 1)) W A O Z 3 = x.2 3 + 1 := by rw [(do_3 W A O Z).1, us_eq]
  unfold WI
  dsimp only
  rw [e3]
  refine ⟨?_, i2, by omega, by omega, k.1.trans a5, k.2.trans a6⟩
  rw [show N + (x.2 3 + 1) = N + x.2 3 + 1 by omega]
  exact i1
theorem WI_up {x : Sg} (h : WI N n0 n1 x) (h3 : x.2 3 < 300) : WI N n0 n1 (x.1, us x.2 3 (x.2 3 + 1)) := by
  obtain ⟨a1, a2, a3, a4, a5, a6⟩ := h
  unfold WI
  dsimp only
  rw [us_eq]
  refine ⟨Iv_le a1 (by omega), ?_, by omega, by omega, a5, a6⟩
  unfold IL at *
  simp (disch := omega) only [us_ne]
  omega
theorem WI_8 {x : Sg} (h : WI N n0 n1 x) : WI N n0 n1 (x.1, us x.2 8 1) := by
  obtain ⟨a1, a2, a3, a4, a5, a6⟩ := h
  unfold WI
  dsimp only
  unfold IL at *
  simp (disch := omega) only [us_ne]
  exact ⟨a1, a2, a3, a4, a5, a6⟩
theorem c_72 (v C n : Int) (S : Sh) (h : Mem) : MI X d 72 [.inl v, .inl C, .inl n] S h = some (b2i (cmB v C n = true), S, h) := by
  rw [e_72]
  unfold b2i cmB
  (repeat' split) <;> simp_all <;> omega
theorem b2i_01 (p : Prop) [Decidable p] : b2i p = 0 ∨ b2i p = 1 := by unfold b2i; split <;> simp
theorem c_71 (hb : isD b) (r : RD g b s) (hi : Iv N s) (i : Int) (i0 : 0 ≤ i) (i1 : i < 30) {T C A Z : Int} (hT : rd g (b + 15) i = T) (hC : rd g (b + 16) i = C) (hA : rd g (b + 17) i = A) (hZ : rd g (b + 19) i = Z) (ok : T = 20 ∨ (T = 10 ∧ 0 ≤ A ∧ A < s 1) ∨ (T = 21 ∧ 0 ≤ A ∧ A < s 0) ∨ T = 22) : MI X (d + 2) 71 [.inr (.inr b), .inl i] S0 (ov g) = some (b2i (tsB s T C A Z = true), S0, ov g) := by
  have hr := r
  have hi' := hi
  obtain ⟨r0, r1, r2, rt, rm, rw', r6, r7⟩ := r
  have i3 := hi.2.2.2.1
  have i1' := hi.2.1
  rw [e_71]
  simp (disch := omega) only [↓G_daw hb, ↓G_yrs hb, ↓al_D17 _ hb, ↓al_D15 _ hb, hT, hA]
  unfold tsB
  by_cases t10 : T = 10
  · have e := rm A (by omega) (by omega)
    rw [if_pos t10, if_pos t10]
    simp (disch := omega) only [↓G_daw hb, ↓G_yrs hb, ↓al_D7 _ hb, ↓al_D16 _ hb, ↓al_D19 _ hb, hC, hZ, e, ↓oC_of (c_72 _ _ _ _ _)]
    rw [if_pos (b2i_01 _)]
  rw [if_neg t10, if_neg t10]
  by_cases t20 : T = 20
  · rw [if_pos t20, if_pos t20]
    simp (disch := omega) only [↓K_daw hb, ↓G_yrs hb, ↓oC_of (c_41 hb hr hi'), ↓al_D16 _ hb, ↓al_D19 _ hb, hC, hZ, ↓oC_of (c_72 _ _ _ _ _)]
    rw [if_pos (b2i_01 _)]
  rw [if_neg t20, if_neg t20]
  by_cases t21 : T = 21
  · rw [if_pos t21, if_pos t21, K_daw hb, oC_of (c_28 hb hr hi' A (by omega) (by omega)), if_pos (b2i_01 _)]
    unfold b2i
    by_cases z : th s A 2 ≤ th s A 3
    · rw [if_pos z, if_pos (decide_eq_true z)]
    · rw [if_neg z, if_neg (by rw [decide_eq_false z]; decide)]
  rw [if_neg t21, if_neg t21, K_daw hb, oC_of (c_40 hb hr), if_pos (b2i_01 _)]
  unfold b2i
  by_cases z : s 6 ≠ -1
  · rw [if_pos z, if_pos (decide_eq_true z)]
  · rw [if_neg z, if_neg (by rw [decide_eq_false z]; decide)]
theorem c_70 (hb : isD b) (hl : isL L) (r : RD g b s) (hi : Iv N s) (i : Int) (i0 : 0 ≤ i) (i1 : i < 30) {W T C A Z : Int} (hW : rd g (b + 14) i = W) (hT : rd g (b + 15) i = T) (hC : rd g (b + 16) i = C) (hA : rd g (b + 17) i = A) (hZ : rd g (b + 19) i = Z) (ok : W = 19 → (T = 20 ∨ (T = 10 ∧ 0 ≤ A ∧ A < s 1) ∨ (T = 21 ∧ 0 ≤ A ∧ A < s 0) ∨ T = 22)) (ok2 : W = 23 → 0 ≤ Z) : MI X (d + 3) 70 [.inr (.inr L), .inr (.inr b), .inl i] S0 (ov g) = some (if W = 23 ∨ W = 19 then ((wkT s W T C A Z : Nat) : Int) else 0, S0, ov g) := by
  rw [e_70]
  simp (disch := omega) only [↓G_daw hb, ↓G_yrs hb, ↓al_D14 _ hb, hW]
  unfold wkT
  by_cases w23 : W = 23
  · rw [if_pos w23, if_pos (Or.inl w23), if_pos w23]
    simp (disch := omega) only [↓G_yrs hb, ↓al_D19 _ hb, hZ]
    rw [Int.toNat_of_nonneg (ok2 w23)]
  rw [if_neg w23, if_neg w23]
  by_cases w19 : W = 19
  · rw [if_pos w19, if_pos (Or.inr w19), oC_of (c_71 hb r hi i i0 i1 hT hC hA hZ (ok w19)), if_b2i]
    by_cases z : tsB s T C A Z = true
    · rw [if_pos z, if_pos z]; rfl
    · rw [if_neg z, if_neg z]; rfl
  · rw [if_neg w19, if_neg (fun z => by rcases z with z | z; exact w23 z; exact w19 z)]
/-- what a walk leaves behind -/
def wkQ (b L N n0 n1 : Int) (g : Mem) (q : Bool × Sg) (v : Int) (g' : Mem) : Prop := v = b2i (q.1 = true) ∧ RD g' b q.2.1 ∧ RL g' L q.2.2 ∧ WI N n0 n1 q.2 ∧ FW b L g g'
theorem wkQ_tr {g g1 g' : Mem} {q : Bool × Sg} {v : Int} (f : FW b L g g1) (h : wkQ b L N n0 n1 g1 q v g') : wkQ b L N n0 n1 g q v g' := ⟨h.1, h.2.1, h.2.2.1, h.2.2.2.1, FW_tr f h.2.2.2.2⟩
theorem cw_FW {g g1 : Mem} {cw : Int → Int → Int} (hb : isD b) (hl : isL L) (f : FW b L g g1) (h : ∀ k t, 0 ≤ k → k ≤ 6 → 0 ≤ t → t < 30 → rd g (b + 14 + k) t = cw k t) : ∀ k t, 0 ≤ k → k ≤ 6 → 0 ≤ t → t < 30 → rd g1 (b + 14 + k) t = cw k t := fun k t a e k0 l => by
  have := isD_rng hb
  have := isL_rng hl
  rw [f _ _ (by omega) k0 (by omega) (by omega) (by omega) (by omega) (by omega) (by omega)]
  exact h k t a e k0 l
/-- the inner walks of one STEP, one behind the other -/
theorem c_69_i (hb : isD b) (hl : isL L) {cw : Int → Int → Int} {w : Sg → Bool × Sg} (D i e j W : Int) (n : Nat) (hD : 0 ≤ D ∧ D ≤ 3) (i0 : 0 ≤ i) (i1 : i < 30)
    (ih : ∀ (g : Mem) (x : Sg), RD g b x.1 → RL g L x.2 → WI N n0 n1 x → (∀ k t, 0 ≤ k → k ≤ 6 → 0 ≤ t → t < 30 → rd g (b + 14 + k) t = cw k t) → Ok (wkQ b L N n0 n1 g (w x)) (MI X n 69 [.inr (.inr L), .inr (.inr b), .inl (i + 1), .inl e, .inl (D + 1)] S0 (ov g))) :
    ∀ (t : Nat) (tt k : Int) (g : Mem) (x : Sg), k + t = tt → 0 ≤ k → tt ≤ 99 → RD g b x.1 → RL g L x.2 → WI N n0 n1 x → (∀ k t, 0 ≤ k → k ≤ 6 → 0 ≤ t → t < 30 → rd g (b + 14 + k) t = cw k t) →
    ∃ g', RD g' b (wkI w t x).2.1 ∧ RL g' L (wkI w t x).2.2 ∧ WI N n0 n1 (wkI w t x).2 ∧ FW b L g g' ∧ EI X (n + 1) 69 96 [some (.inr (.inr L)), some (.inr (.inr b)), none, some (.inl j), some (.inl D), some (.inr (.inr (b + 13))), some (.inl i), some (.inl W), some (.inl tt), some (.inl e), some (.inl k)] [] S0 (ov g) = (if (wkI w t x).1 = true then EI X (n + 1) 69 96 [some (.inr (.inr L)), some (.inr (.inr b)), none, some (.inl j), some (.inl D), some (.inr (.inr (b + 13))), some (.inl i), some (.inl W), some (.inl tt), some (.inl e), some (.inl tt)] [] S0 (ov g') else some (0, S0, ov g')) := by
  intro t
  induction t with
  | zero =>
    intro tt k g x hk k0 t9 h1 h2 h3 h4
    refine ⟨g, h1, h2, h3, FW_rf _ _ _, ?_⟩
    rw [show wkI w 0 x = (true, x) from rfl, if_pos rfl, show k = tt by omega]
  | succ t iht =>
    intro tt k g x hk k0 t9 h1 h2 h3 h4
    obtain ⟨v, g1, e1, p1, p2, p3, p4, p5⟩ := ih g x h1 h2 h3 h4
    have go : EI X (n + 1) 69 96 [some (.inr (.inr L)), some (.inr (.inr b)), none, some (.inl j), some (.inl D), some (.inr (.inr (b + 13))), some (.inl i), some (.inl W), some (.inl tt), some (.inl e), some (.inl k)] [] S0 (ov g) = if (w x).1 = true then EI X (n + 1) 69 96 [some (.inr (.inr L)), some (.inr (.inr b)), none, some (.inl j), some (.inl D), some (.inr (.inr (b + 13))), some (.inl i), some (.inl W), some (.inl tt), some (.inl e), some (.inl (k + 1))] [] S0 (ov g1) else some (0, S0, ov g1) := by
      rw [e_69_96, if_pos (show k < tt by omega), w32_id (x := i + 1) (by omega) (by omega), w32_id (x := D + 1) (by omega) (by omega), oC_of e1, p1, if_b2i, w32_id (x := k + 1) (by omega) (by omega)]
    rw [wkI_s]
    by_cases z : (w x).1 = true
    · rw [if_pos z] at go
      rw [if_pos z]
      obtain ⟨g2, q1, q2, q3, q4, q5⟩ := iht tt (k + 1) g1 (w x).2 (by omega) (by omega) t9 p2 p3 p4 (cw_FW hb hl p5 h4)
      exact ⟨g2, q1, q2, q3, FW_tr p5 q4, go.trans q5⟩
    · rw [if_neg z] at go
      rw [if_neg z]
      refine ⟨g1, p2, p3, p4, p5, ?_⟩
      rw [if_neg z]
      exact go
theorem wkT_99 (s : Int → Int) {W T C A Z : Int} (h : W = 23 → Z ≤ 99) : ((wkT s W T C A Z : Nat) : Int) ≤ 99 := by
  unfold wkT
  split
  · next e => have := h e; omega
  · split <;> omega
theorem c_69_l (hb : isD b) (hl : isL L) {cw R : Int → Int → Int} (hN : N + 300 < 800000) : ∀ (f n : Nat) (D i j p q : Int), D + n = 4 → 0 ≤ D → D ≤ 3 → Blk n0 n1 cw R f D i j p q → 0 ≤ i → j ≤ 30 → ∀ (g : Mem) (x : Sg), RD g b x.1 → RL g L x.2 → WI N n0 n1 x → (∀ k t, 0 ≤ k → k ≤ 6 → 0 ≤ t → t < 30 → rd g (b + 14 + k) t = cw k t) → Ok (wkQ b L N n0 n1 g (wk cw f i j x)) (EI X (d + n + 6) 69 9 [some (.inr (.inr L)), some (.inr (.inr b)), none, some (.inl j), some (.inl D), some (.inr (.inr (b + 13))), some (.inl i), none, none, none, none] [] S0 (ov g)) := by
  have hb2 := isD_rng hb
  have hl2 := isL_rng hl
  intro f
  induction f with
  | zero =>
    intro n D i j p q hn D0 D3 hB i0 j1 g x h1 h2 h3 h4
    obtain ⟨hij, -⟩ := hB
    rw [e_69_9, if_neg (show ¬ i < j by omega)]
    exact Ok_some ⟨rfl, h1, h2, h3, FW_rf _ _ _⟩
  | succ f ih =>
    intro n D i j p q hn D0 D3 hB i0 j1 g x h1 h2 h3 h4
    by_cases hij : i < j
    case neg =>
      have e : wk cw (f + 1) i j x = (true, x) := by rw [wk_s, if_neg hij]
      rw [e, e_69_9, if_neg hij]
      exact Ok_some ⟨rfl, h1, h2, h3, FW_rf _ _ _⟩
    have x3 : rd g L 3 = x.2 3 := h2 3 (by omega) (by omega)
    have h3' := id h3
    obtain ⟨a1, a2, a3, a4, a5, a6⟩ := h3'
    rw [e_69_9, if_pos hij, if_neg (show ¬ 3 < D by omega), wk_s, if_pos hij]
    rw [(G_liv hl g none _).2.2.2.1, x3]
    by_cases h300 : x.2 3 < 300
    case neg =>
      rw [if_neg h300, if_pos (show 300 ≤ x.2 3 by omega)]
      simp only [↓P_liv hl, unV, or_true, true_or, ↓reduceIte, ↓oK_some, Int.one_ne_zero]
      refine Ok_some ⟨rfl, RD_L hb hl h1 _ _, RL_wr h2 _ (by omega), WI_8 h3, FW_L _ _ _ (by omega)⟩
    rw [if_pos h300, if_neg (show ¬ 300 ≤ x.2 3 by omega)]
    have y1 : RD (wr g L 3 (x.2 3 + 1)) b x.1 := RD_L hb hl h1 _ _
    have y2 : RL (wr g L 3 (x.2 3 + 1)) L (us x.2 3 (x.2 3 + 1)) := RL_wr h2 _ (by omega)
    have y3 := WI_up h3 h300
    have yf : FW b L g (wr g L 3 (x.2 3 + 1)) := FW_L _ _ _ (by omega)
    have y4 := cw_FW hb hl yf h4
    rw [(G_liv hl g none _).2.2.2.1, x3, w32_id (x := x.2 3 + 1) (by omega) (by omega), (P_liv hl g _ none _).2.2.1]
    generalize wr g L 3 (x.2 3 + 1) = g1 at y1 y2 yf y4 ⊢
    have W0 : rd g1 (b + 14) i = cw 0 i := by have := y4 0 i (by omega) (by omega) i0 (by omega); rw [Int.add_zero] at this; exact this
    have W1 : rd g1 (b + 15) i = cw 1 i := by have := y4 1 i (by omega) (by omega) i0 (by omega); rw [show b + 14 + 1 = b + 15 by omega] at this; exact this
    have W2 : rd g1 (b + 16) i = cw 2 i := by have := y4 2 i (by omega) (by omega) i0 (by omega); rw [show b + 14 + 2 = b + 16 by omega] at this; exact this
    have W3 : rd g1 (b + 17) i = cw 3 i := by have := y4 3 i (by omega) (by omega) i0 (by omega); rw [show b + 14 + 3 = b + 17 by omega] at this; exact this
    have W4 : rd g1 (b + 18) i = cw 4 i := by have := y4 4 i (by omega) (by omega) i0 (by omega); rw [show b + 14 + 4 = b + 18 by omega] at this; exact this
    have W5 : rd g1 (b + 19) i = cw 5 i := by have := y4 5 i (by omega) (by omega) i0 (by omega); rw [show b + 14 + 5 = b + 19 by omega] at this; exact this
    have W6 : rd g1 (b + 20) i = cw 6 i := by have := y4 6 i (by omega) (by omega) i0 (by omega); rw [show b + 14 + 6 = b + 20 by omega] at this; exact this
    rw [(G_yrs hb g1 none _).2.2.1, al_D14 X hb g1 i0 (by omega), W0]
    by_cases h25 : cw 0 i = 25
    · rw [if_pos h25, if_pos h25]
      exact Ok_some ⟨rfl, y1, y2, y3, yf⟩
    rw [if_neg h25, if_neg h25, K_liv hl]
    rcases hB with ⟨q1, q2⟩ | ⟨q1, q2, q3⟩ | ⟨q1, q2, q3, p', q4, q5, q6, q7, q8⟩
    · omega
    · -- a STEP without a block
      have ok : okI n1 (cw 0 i) (cw 3 i) (cw 4 i) (cw 5 i) := by
        rcases q2 with q2 | q2
        · exact absurd q2.1 h25
        · exact q2.1
      have nw : ¬ (cw 0 i = 23 ∨ cw 0 i = 19) := by omega
      have ll := Blk_le _ _ _ _ _ _ q3
      rw [if_neg nw]
      have e70 := c_70 (X := X) (d := d + n + 2) hb hl y1 y3.1 i i0 (by omega) W0 W1 W2 W3 W5 (fun z => absurd (Or.inr z) nw) (fun z => absurd (Or.inl z) nw)
      rw [if_neg nw] at e70
      rw [oC_of e70, (G_yrs hb g1 none _).2.2.2.2.2.2.2.2, al_D20 X hb g1 i0 (by omega), W6, q1, w32_id (x := i + 1) (by omega) (by omega), show am_max (i + 1) (i + 1) = i + 1 by unfold am_max; rw [if_neg (by omega)]]
      rw [e_69_96, if_neg (by omega), if_neg (show ¬ cw 0 i = 19 by omega), if_neg (show ¬ cw 0 i = 23 by omega), K_liv hl]
      have ok' : okS x.1 (cw 0 i) (cw 3 i) (cw 4 i) (cw 5 i) := ⟨ok.1, ok.2.1, by rw [a6]; exact ok.2.2.1, by rw [a6]; exact ok.2.2.2⟩
      have il : IL (x.2 3) (us x.2 3 (x.2 3 + 1)) := by
        unfold IL at a2 ⊢
        simp (disch := omega) only [us_ne]
        exact a2
      refine Ok_bind (c_73 (d := d + n) hb hl y1 a1 (by omega) y2 il a4 i i0 (by omega) W0 W3 W4 W5 ok') ?_
      rintro v g2 ⟨z1, z2, z3⟩
      exact Ok_mono (ih n D (i + 1) j (p + 1) q hn D0 D3 q3 (by omega) j1 g2 (_, _) z1 z2 (WI_st h3 hN h300 ok) (cw_FW hb hl z3 y4)) (fun v' g' z => wkQ_tr (FW_tr yf z3) z)
    · -- a block
      have w3 : cw 0 i = 23 ∨ cw 0 i = 19 := by rcases q2 with q2 | q2; exact Or.inl q2.1; exact Or.inr q2.1
      have l7 := Blk_le _ _ _ _ _ _ q7
      have l8 := Blk_le _ _ _ _ _ _ q8
      rw [if_pos w3]
      have e70 := c_70 (X := X) (d := d + n + 2) hb hl y1 y3.1 i i0 (by omega) W0 W1 W2 W3 W5 (fun z => by
        rcases q2 with q2 | q2
        · omega
        · rw [a5, a6]; exact q2.2) (fun z => by rcases q2 with q2 | q2 <;> omega)
      rw [if_pos w3] at e70
      rw [oC_of e70, (G_yrs hb g1 none _).2.2.2.2.2.2.2.2, al_D20 X hb g1 i0 (by omega), W6, w32_id (x := i + 1) (by omega) (by omega), show am_max (i + 1) (cw 6 i) = cw 6 i by unfold am_max; split <;> omega]
      obtain ⟨n', rfl⟩ : ∃ n', n = n' + 1 := ⟨n - 1, by omega⟩
      have inner : ∀ (g : Mem) (y : Sg), RD g b y.1 → RL g L y.2 → WI N n0 n1 y → (∀ k t, 0 ≤ k → k ≤ 6 → 0 ≤ t → t < 30 → rd g (b + 14 + k) t = cw k t) → Ok (wkQ b L N n0 n1 g (wk cw f (i + 1) (cw 6 i) y)) (MI X (d + n' + 6) 69 [.inr (.inr L), .inr (.inr b), .inl (i + 1), .inl (cw 6 i), .inl (D + 1)] S0 (ov g)) := fun g y k1 k2 k3 k4 => by
        rw [e_69, (G_daw hb g none _).2.2.2.2.2.2.2.2.2.2.2.2.2.2.2.2.2.2.2]
        exact ih n' (D + 1) (i + 1) (cw 6 i) (p + 1) p' (by omega) (by omega) (by omega) q7 (by omega) (by omega) g y k1 k2 k3 k4
      have t99 : ((wkT x.1 (cw 0 i) (cw 1 i) (cw 2 i) (cw 3 i) (cw 5 i) : Nat) : Int) ≤ 99 := wkT_99 _ (fun z => by rcases q2 with q2 | q2 <;> omega)
      obtain ⟨g2, k1, k2, k3, k4, k5⟩ := c_69_i (X := X) hb hl D i (cw 6 i) j (cw 0 i) (d + n' + 6) ⟨D0, D3⟩ i0 (by omega) inner (wkT x.1 (cw 0 i) (cw 1 i) (cw 2 i) (cw 3 i) (cw 5 i)) _ 0 g1 (x.1, us x.2 3 (x.2 3 + 1)) (by omega) (by omega) t99 y1 y2 y3 y4
      rw [show d + (n' + 1) + 5 + 1 = d + n' + 6 + 1 by omega, k5]
      generalize wkI (wk cw f (i + 1) (cw 6 i)) (wkT x.1 (cw 0 i) (cw 1 i) (cw 2 i) (cw 3 i) (cw 5 i)) (x.1, us x.2 3 (x.2 3 + 1)) = rr at *
      by_cases z : rr.1 = true
      case neg =>
        rw [if_neg z, if_neg z]
        refine Ok_some ⟨?_, k1, k2, k3, FW_tr yf k4⟩
        unfold b2i; rw [if_neg z]
      rw [if_pos z, if_pos z]
      have fin : ∀ w, EI X (d + n' + 6 + 1) 69 96 [some (.inr (.inr L)), some (.inr (.inr b)), none, some (.inl j), some (.inl D), some (.inr (.inr (b + 13))), some (.inl i), some (.inl (cw 0 i)), some (.inl w), some (.inl (cw 6 i)), some (.inl w)] [] S0 (ov g2) = EI X (d + n' + 6 + 1) 69 9 [some (.inr (.inr L)), some (.inr (.inr b)), none, some (.inl j), some (.inl D), some (.inr (.inr (b + 13))), some (.inl (cw 6 i)), none, none, none, none] [] S0 (ov g2) := fun w => by
        rw [e_69_96, if_neg (by omega)]
        rcases w3 with w3 | w3
        · rw [if_neg (by omega), if_pos w3]
        · rw [if_pos w3]
      rw [fin]
      exact Ok_mono (ih (n' + 1) D (cw 6 i) j (p' + 1) q (by omega) D0 D3 q8 (by omega) j1 g2 rr.2 k1 k2 k3 (cw_FW hb hl k4 y4)) (fun v' g' z => wkQ_tr (FW_tr yf k4) z)
end
