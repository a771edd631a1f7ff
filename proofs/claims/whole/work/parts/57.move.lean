/-! MOVE and FORCED in the class -/
theorem bsF_congr (up : Bool) (c : Int → Bool) (f f2 : Int → Int) : ∀ (k : Nat) (a m : Int), (∀ b, a ≤ b → b < a + k → c b = true → f b = f2 b) → bsF up c f k a m = bsF up c f2 k a m
  | 0, _, _, _ => rfl
  | k + 1, a, m, h => by
    unfold bsF
    cases hc : c a
    · exact bsF_congr up c f f2 k (a + 1) m (fun b h1 h2 h3 => h b (by omega) (by omega) h3)
    · rw [h a (by omega) (by omega) hc]
      exact bsF_congr up c f f2 k (a + 1) _ (fun b h1 h2 h3 => h b (by omega) (by omega) h3)
section
variable {X : Xs} {d : Nat}
theorem c_81_u {n : Nat} {B : Int → Int} (hB : IB B) (h6 : B 6 + (n + 1 : Nat) < 1000000) : ∀ (k : Nat) (a m z : Int) (g : Mem), a + k = 4 → 0 ≤ a → RB g B → -1000 ≤ m → m ≤ 60 → Ok (fun w g' => w = chF true (fun a => decide (caB B a)) (fun a => vaB lfV 0 n (plB B a)) k a m z ∧ RB g' B ∧ FB g g') (EI X (d + n + 4) 81 34 [some (.inr (.inr 125)), some (.inl ((n + 1 : Nat) : Int)), some (.inl 1), some (.inl m), some (.inl 1000), some (.inl z), some (.inr (.inl (pkB B))), none, some (.inl a), none] [] S0 (ov g)) := by
  intro k
  induction k with
  | zero =>
    intro a m z g hk h0 r b1 b2
    rw [e_81_34]
    simp (disch := omega) only [↓if_neg]
    exact Ok_some ⟨rfl, r, fun _ _ _ _ => rfl⟩
  | succ k ihk =>
    intro a m z g hk h0 r b1 b2
    have hn : (((n + 1 : Nat) : Int)) - 1 = (n : Int) := by omega
    have hB' := hB
    unfold IB at hB'
    rw [e_81_34]
    simp (disch := omega) only [↓K_bou, ↓G_bou, ↓P_bou, ↓al_126 _, ↓as_126, ↓al_127 _, ↓as_127, ↓al_128 _, ↓as_128, ↓al_129 _, ↓as_129, ↓al_130 _, ↓as_130, ↓al_131 _, ↓as_131, ↓al_132 _, ↓as_132, ↓al_133 _, ↓as_133, ↓if_pos, ↓oC_of (c_11 r hB _), ↓if_b2i]
    unfold chF
    by_cases hc : caB B a
    case neg =>
      rw [if_neg hc]
      simp (disch := omega) only [w32_id, hc, decide_false, Bool.false_and, cond_false]
      exact ihk (a + 1) m z g (by omega) (by omega) r b1 b2
    rw [if_pos hc]
    simp only [hc, decide_true, Bool.true_and, cond_true]
    refine Ok_bind (c_13 r hB a (by omega) (by omega)) ?_
    rintro v2 g2 ⟨p1, p2, p3⟩
    have hI := IB_pl hB (a := a) (by omega) hc (by omega)
    have h7 : plB B a 6 + n < 1000000 := by rw [(pl_all B a (by omega)).2.2.1]; omega
    have vr := vaV_in n hI h7
    simp (disch := omega) only [w32_id, hn]
    refine Ok_bind (c_82 (d := d) n _ g2 m 1000 p1 hI h7 (by omega) (by omega) (by omega)) ?_
    rintro w g3 ⟨q1, q2, q3⟩
    simp only [↓K_bou, ↓G_bou, ↓P_bou, ↓al_126 _, ↓as_126, ↓al_127 _, ↓as_127, ↓al_128 _, ↓as_128, ↓al_129 _, ↓as_129, ↓al_130 _, ↓as_130, ↓al_131 _, ↓as_131, ↓al_132 _, ↓as_132, ↓al_133 _, ↓as_133]
    refine Ok_bind (c_16 q2 hB (fun j j1 j2 => (pl_all B a (by omega)).2.2.2 j j1)) ?_
    rintro v4 g4 ⟨t1, t2⟩
    have fr := FB_tr (FB_tr p3 q3) t2
    generalize vaB lfV 0 n (plB B a) = v at q1 vr ⊢
    unfold Pab at q1
    by_cases hv : m < v
    · have e : w = v := by omega
      subst e
      (try simp (disch := omega) only [↓if_pos, ↓if_neg, w32_id, hv, decide_true, cond_true])
      exact Ok_mono (ihk (a + 1) w a g4 (by omega) (by omega) t1 (by omega) (by omega)) (fun z g5 q => ⟨q.1, q.2.1, FB_tr fr q.2.2⟩)
    · (try simp (disch := omega) only [↓if_pos, ↓if_neg, w32_id, hv, decide_false, cond_false])
      exact Ok_mono (ihk (a + 1) m z g4 (by omega) (by omega) t1 (by omega) (by omega)) (fun z g5 q => ⟨q.1, q.2.1, FB_tr fr q.2.2⟩)
theorem c_81_d {n : Nat} {B : Int → Int} (hB : IB B) (h6 : B 6 + (n + 1 : Nat) < 1000000) : ∀ (k : Nat) (a m z : Int) (g : Mem), a + k = 4 → 0 ≤ a → RB g B → -60 ≤ m → m ≤ 1000 → Ok (fun w g' => w = chF false (fun a => decide (caB B a)) (fun a => vaB lfV 0 n (plB B a)) k a m z ∧ RB g' B ∧ FB g g') (EI X (d + n + 4) 81 34 [some (.inr (.inr 125)), some (.inl ((n + 1 : Nat) : Int)), some (.inl 0), some (.inl (-1000)), some (.inl m), some (.inl z), some (.inr (.inl (pkB B))), none, some (.inl a), none] [] S0 (ov g)) := by
  intro k
  induction k with
  | zero =>
    intro a m z g hk h0 r b1 b2
    rw [e_81_34]
    simp (disch := omega) only [↓if_neg]
    exact Ok_some ⟨rfl, r, fun _ _ _ _ => rfl⟩
  | succ k ihk =>
    intro a m z g hk h0 r b1 b2
    have hn : (((n + 1 : Nat) : Int)) - 1 = (n : Int) := by omega
    have hB' := hB
    unfold IB at hB'
    rw [e_81_34]
    simp (disch := omega) only [↓K_bou, ↓G_bou, ↓P_bou, ↓al_126 _, ↓as_126, ↓al_127 _, ↓as_127, ↓al_128 _, ↓as_128, ↓al_129 _, ↓as_129, ↓al_130 _, ↓as_130, ↓al_131 _, ↓as_131, ↓al_132 _, ↓as_132, ↓al_133 _, ↓as_133, ↓if_pos, ↓oC_of (c_11 r hB _), ↓if_b2i]
    unfold chF
    by_cases hc : caB B a
    case neg =>
      rw [if_neg hc]
      simp (disch := omega) only [w32_id, hc, decide_false, Bool.false_and, cond_false]
      exact ihk (a + 1) m z g (by omega) (by omega) r b1 b2
    rw [if_pos hc]
    simp only [hc, decide_true, Bool.true_and, cond_false]
    refine Ok_bind (c_13 r hB a (by omega) (by omega)) ?_
    rintro v2 g2 ⟨p1, p2, p3⟩
    have hI := IB_pl hB (a := a) (by omega) hc (by omega)
    have h7 : plB B a 6 + n < 1000000 := by rw [(pl_all B a (by omega)).2.2.1]; omega
    have vr := vaV_in n hI h7
    simp (disch := omega) only [w32_id, hn]
    refine Ok_bind (c_82 (d := d) n _ g2 (-1000) m p1 hI h7 (by omega) (by omega) (by omega)) ?_
    rintro w g3 ⟨q1, q2, q3⟩
    simp only [↓K_bou, ↓G_bou, ↓P_bou, ↓al_126 _, ↓as_126, ↓al_127 _, ↓as_127, ↓al_128 _, ↓as_128, ↓al_129 _, ↓as_129, ↓al_130 _, ↓as_130, ↓al_131 _, ↓as_131, ↓al_132 _, ↓as_132, ↓al_133 _, ↓as_133]
    refine Ok_bind (c_16 q2 hB (fun j j1 j2 => (pl_all B a (by omega)).2.2.2 j j1)) ?_
    rintro v4 g4 ⟨t1, t2⟩
    have fr := FB_tr (FB_tr p3 q3) t2
    generalize vaB lfV 0 n (plB B a) = v at q1 vr ⊢
    unfold Pab at q1
    by_cases hv : v < m
    · have e : w = v := by omega
      subst e
      (try simp (disch := omega) only [↓if_pos, ↓if_neg, w32_id, hv, decide_true, cond_true])
      exact Ok_mono (ihk (a + 1) w a g4 (by omega) (by omega) t1 (by omega) (by omega)) (fun z g5 q => ⟨q.1, q.2.1, FB_tr fr q.2.2⟩)
    · (try simp (disch := omega) only [↓if_pos, ↓if_neg, w32_id, hv, decide_false, cond_false])
      exact Ok_mono (ihk (a + 1) m z g4 (by omega) (by omega) t1 (by omega) (by omega)) (fun z g5 q => ⟨q.1, q.2.1, FB_tr fr q.2.2⟩)
theorem c_81 (n : Nat) {B : Int → Int} {g : Mem} (r : RB g B) (hB : IB B) (h6 : B 6 + (n + 1 : Nat) < 1000000) : Ok (fun w g' => w = chF (decide (B 6 % 2 = 0)) (fun a => decide (caB B a)) (fun a => vaB lfV 0 n (plB B a)) 4 0 (if B 6 % 2 = 0 then -1000 else 1000) (-1) ∧ RB g' B ∧ FB g g') (MI X (d + n + 4) 81 [.inr (.inr 125), .inl ((n + 1 : Nat) : Int)] S0 (ov g)) := by
  have hB' := hB
  unfold IB at hB'
  have hm : B 6 % 2 = 0 ∨ B 6 % 2 = 1 := by omega
  rw [e_81]
  simp only [↓K_bou, ↓G_bou, ↓P_bou, ↓al_126 _, ↓as_126, ↓al_127 _, ↓as_127, ↓al_128 _, ↓as_128, ↓al_129 _, ↓as_129, ↓al_130 _, ↓as_130, ↓al_131 _, ↓as_131, ↓al_132 _, ↓as_132, ↓al_133 _, ↓as_133, ↓oC_of (c_6 r hB), ↓oC_of (c_15 r hB)]
  rcases hm with e | e
  · simp only [e, ↓reduceIte, decide_true]
    exact c_81_u (d := d) hB h6 4 0 (-1000) (-1) g (by omega) (by omega) r (by omega) (by omega)
  · simp only [e, Int.reduceEq, ↓reduceIte, decide_false]
    exact c_81_d (d := d) hB h6 4 0 1000 (-1) g (by omega) (by omega) r (by omega) (by omega)
theorem c_84_u {n : Nat} {B : Int → Int} (hB : IB B) (h6 : B 6 + (n + 1 : Nat) < 1000000) (side : Int)
    (ih : ∀ (a : Int) (g : Mem), 0 ≤ a → a < 4 → caB B a → RB g (plB B a) → Ok (fun w g' => w = vaB (lfF side) side n (plB B a) ∧ RB g' (plB B a) ∧ FB g g') (MI X (d + n + 3) 84 [.inr (.inr 125), .inl (n : Int), .inl side] S0 (ov g)))
    (iv : ∀ a, 0 ≤ a → a < 4 → caB B a → 0 ≤ vaB (lfF side) side n (plB B a) ∧ vaB (lfF side) side n (plB B a) ≤ 1) : ∀ (k : Nat) (a : Int) (g : Mem), a + k = 4 → 0 ≤ a → RB g B → Ok (fun w g' => w = bsF true (fun a => decide (caB B a)) (fun a => vaB (lfF side) side n (plB B a)) k a 0 ∧ RB g' B ∧ FB g g') (EI X (d + n + 4) 84 53 [some (.inr (.inr 125)), some (.inl ((n + 1 : Nat) : Int)), some (.inl side), some (.inl 1), some (.inr (.inl (pkB B))), none, some (.inl a), none] [] S0 (ov g)) := by
  intro k
  induction k with
  | zero =>
    intro a g hk h0 r
    rw [e_84_53]
    simp (disch := omega) only [↓if_neg, ↓if_pos]
    exact Ok_some ⟨rfl, r, fun _ _ _ _ => rfl⟩
  | succ k ihk =>
    intro a g hk h0 r
    have hn : (((n + 1 : Nat) : Int)) - 1 = (n : Int) := by omega
    have hB' := hB
    unfold IB at hB'
    rw [e_84_53]
    simp (disch := omega) only [↓K_bou, ↓G_bou, ↓P_bou, ↓al_126 _, ↓as_126, ↓al_127 _, ↓as_127, ↓al_128 _, ↓as_128, ↓al_129 _, ↓as_129, ↓al_130 _, ↓as_130, ↓al_131 _, ↓as_131, ↓al_132 _, ↓as_132, ↓al_133 _, ↓as_133, ↓if_pos, ↓oC_of (c_11 r hB _), ↓if_b2i]
    unfold bsF
    by_cases hc : caB B a
    case neg =>
      rw [if_neg hc]
      simp (disch := omega) only [w32_id, hc, decide_false, cond_false]
      exact ihk (a + 1) g (by omega) (by omega) r
    rw [if_pos hc]
    have va := iv a h0 (by omega) hc
    simp only [hc, decide_true, cond_true]
    refine Ok_bind (c_13 r hB a (by omega) (by omega)) ?_
    rintro v2 g2 ⟨p1, p2, p3⟩
    simp (disch := omega) only [w32_id, hn]
    refine Ok_bind (ih a g2 h0 (by omega) hc p1) ?_
    rintro w g3 ⟨rfl, q2, q3⟩
    simp only [↓K_bou, ↓G_bou, ↓P_bou, ↓al_126 _, ↓as_126, ↓al_127 _, ↓as_127, ↓al_128 _, ↓as_128, ↓al_129 _, ↓as_129, ↓al_130 _, ↓as_130, ↓al_131 _, ↓as_131, ↓al_132 _, ↓as_132, ↓al_133 _, ↓as_133]
    refine Ok_bind (c_16 q2 hB (fun j j1 j2 => (pl_all B a (by omega)).2.2.2 j j1)) ?_
    rintro v4 g4 ⟨t1, t2⟩
    have fr := FB_tr (FB_tr p3 q3) t2
    have tail : ∀ m, 1 ≤ m → m ≤ 1 → bsF true (fun a => decide (caB B a)) (fun a => vaB (lfF side) side n (plB B a)) k (a + 1) m = 1 := fun m m1 m2 => by
      have q1 := bsF_up (fun a => decide (caB B a)) (fun a => vaB (lfF side) side n (plB B a)) k (a + 1) m
      have q2 := bsF_in (fun x => 0 ≤ x ∧ x ≤ 1) true (fun a => decide (caB B a)) (fun a => vaB (lfF side) side n (plB B a)) k (a + 1) m (by omega) (fun b b1 b2 b3 => iv b (by omega) (by omega) (by simpa using b3))
      omega
    by_cases hv : vaB (lfF side) side n (plB B a) = 1
    · simp (disch := omega) only [↓if_pos, hv]
      refine Ok_some ⟨?_, t1, fr⟩
      rw [tail _ (by decide) (by decide)]
    · have hv2 : vaB (lfF side) side n (plB B a) = 0 := by omega
      have am : am_max 0 0 = 0 := rfl
      simp (disch := omega) only [↓if_neg, w32_id, hv2, am]
      exact Ok_mono (ihk (a + 1) g4 (by omega) (by omega) t1) (fun z g5 q => ⟨q.1, q.2.1, FB_tr fr q.2.2⟩)
theorem c_84_d {n : Nat} {B : Int → Int} (hB : IB B) (h6 : B 6 + (n + 1 : Nat) < 1000000) (side : Int)
    (ih : ∀ (a : Int) (g : Mem), 0 ≤ a → a < 4 → caB B a → RB g (plB B a) → Ok (fun w g' => w = vaB (lfF side) side n (plB B a) ∧ RB g' (plB B a) ∧ FB g g') (MI X (d + n + 3) 84 [.inr (.inr 125), .inl (n : Int), .inl side] S0 (ov g)))
    (iv : ∀ a, 0 ≤ a → a < 4 → caB B a → 0 ≤ vaB (lfF side) side n (plB B a) ∧ vaB (lfF side) side n (plB B a) ≤ 1) : ∀ (k : Nat) (a : Int) (g : Mem), a + k = 4 → 0 ≤ a → RB g B → Ok (fun w g' => w = bsF false (fun a => decide (caB B a)) (fun a => vaB (lfF side) side n (plB B a)) k a 1 ∧ RB g' B ∧ FB g g') (EI X (d + n + 4) 84 53 [some (.inr (.inr 125)), some (.inl ((n + 1 : Nat) : Int)), some (.inl side), some (.inl 0), some (.inr (.inl (pkB B))), none, some (.inl a), none] [] S0 (ov g)) := by
  intro k
  induction k with
  | zero =>
    intro a g hk h0 r
    rw [e_84_53]
    simp (disch := omega) only [↓if_neg, ↓if_pos]
    exact Ok_some ⟨rfl, r, fun _ _ _ _ => rfl⟩
  | succ k ihk =>
    intro a g hk h0 r
    have hn : (((n + 1 : Nat) : Int)) - 1 = (n : Int) := by omega
    have hB' := hB
    unfold IB at hB'
    rw [e_84_53]
    simp (disch := omega) only [↓K_bou, ↓G_bou, ↓P_bou, ↓al_126 _, ↓as_126, ↓al_127 _, ↓as_127, ↓al_128 _, ↓as_128, ↓al_129 _, ↓as_129, ↓al_130 _, ↓as_130, ↓al_131 _, ↓as_131, ↓al_132 _, ↓as_132, ↓al_133 _, ↓as_133, ↓if_pos, ↓oC_of (c_11 r hB _), ↓if_b2i]
    unfold bsF
    by_cases hc : caB B a
    case neg =>
      rw [if_neg hc]
      simp (disch := omega) only [w32_id, hc, decide_false, cond_false]
      exact ihk (a + 1) g (by omega) (by omega) r
    rw [if_pos hc]
    have va := iv a h0 (by omega) hc
    simp only [hc, decide_true, cond_true, cond_false]
    refine Ok_bind (c_13 r hB a (by omega) (by omega)) ?_
    rintro v2 g2 ⟨p1, p2, p3⟩
    simp (disch := omega) only [w32_id, hn]
    refine Ok_bind (ih a g2 h0 (by omega) hc p1) ?_
    rintro w g3 ⟨rfl, q2, q3⟩
    simp only [↓K_bou, ↓G_bou, ↓P_bou, ↓al_126 _, ↓as_126, ↓al_127 _, ↓as_127, ↓al_128 _, ↓as_128, ↓al_129 _, ↓as_129, ↓al_130 _, ↓as_130, ↓al_131 _, ↓as_131, ↓al_132 _, ↓as_132, ↓al_133 _, ↓as_133]
    refine Ok_bind (c_16 q2 hB (fun j j1 j2 => (pl_all B a (by omega)).2.2.2 j j1)) ?_
    rintro v4 g4 ⟨t1, t2⟩
    have fr := FB_tr (FB_tr p3 q3) t2
    have tail : ∀ m, m ≤ 0 → 0 ≤ m → bsF false (fun a => decide (caB B a)) (fun a => vaB (lfF side) side n (plB B a)) k (a + 1) m = 0 := fun m m1 m2 => by
      have q1 := bsF_dn (fun a => decide (caB B a)) (fun a => vaB (lfF side) side n (plB B a)) k (a + 1) m
      have q2 := bsF_in (fun x => 0 ≤ x ∧ x ≤ 1) false (fun a => decide (caB B a)) (fun a => vaB (lfF side) side n (plB B a)) k (a + 1) m (by omega) (fun b b1 b2 b3 => iv b (by omega) (by omega) (by simpa using b3))
      omega
    by_cases hv : vaB (lfF side) side n (plB B a) = 0
    · simp (disch := omega) only [↓if_pos, hv]
      refine Ok_some ⟨?_, t1, fr⟩
      rw [tail _ (by decide) (by decide)]
    · have hv2 : vaB (lfF side) side n (plB B a) = 1 := by omega
      have am : am_min 1 1 = 1 := rfl
      simp (disch := omega) only [↓if_neg, w32_id, hv2, am]
      exact Ok_mono (ihk (a + 1) g4 (by omega) (by omega) t1) (fun z g5 q => ⟨q.1, q.2.1, FB_tr fr q.2.2⟩)
theorem vaF_in (side par : Int) (n : Nat) {B : Int → Int} (hi : IB B) (h6 : B 6 + n < 1000000) : 0 ≤ vaB (lfF side) par n B ∧ vaB (lfF side) par n B ≤ 1 := vaB_in (lfF side) par (fun x => 0 ≤ x ∧ x ≤ 1) (fun B _ => lfF_in side B) n B hi h6
theorem c_84 (side : Int) (hs : side = 0 ∨ side = 1) : ∀ (n : Nat) (B : Int → Int) (g : Mem), RB g B → IB B → B 6 + n < 1000000 → Ok (fun w g' => w = vaB (lfF side) side n B ∧ RB g' B ∧ FB g g') (MI X (d + n + 3) 84 [.inr (.inr 125), .inl (n : Int), .inl side] S0 (ov g)) := by
  intro n
  induction n with
  | zero =>
    intro B g r hB h6
    have hr := r
    obtain ⟨r0, r1, -⟩ := r
    have hB' := hB
    unfold IB at hB
    rw [e_84]
    simp (disch := omega) only [↓K_bou, ↓G_bou, ↓P_bou, ↓al_126 _, ↓as_126, ↓al_127 _, ↓as_127, ↓al_128 _, ↓as_128, ↓al_129 _, ↓as_129, ↓al_130 _, ↓as_130, ↓al_131 _, ↓as_131, ↓al_132 _, ↓as_132, ↓al_133 _, ↓as_133, ↓if_pos, ↓if_neg, ↓oC_of (c_7 hr), ↓if_b2i]
    unfold vaB lfF
    by_cases ho : B 0 = 0 ∨ B 1 = 0
    · rw [if_pos ho]
      rcases hs with rfl | rfl
      · simp (disch := omega) only [↓K_bou, ↓G_bou, ↓P_bou, ↓al_126 _, ↓as_126, ↓al_127 _, ↓as_127, ↓al_128 _, ↓as_128, ↓al_129 _, ↓as_129, ↓al_130 _, ↓as_130, ↓al_131 _, ↓as_131, ↓al_132 _, ↓as_132, ↓al_133 _, ↓as_133, r1, w32_id, Int.sub_zero]
        split <;> exact Ok_some ⟨rfl, hr, fun _ _ _ _ => rfl⟩
      · simp (disch := omega) only [↓K_bou, ↓G_bou, ↓P_bou, ↓al_126 _, ↓as_126, ↓al_127 _, ↓as_127, ↓al_128 _, ↓as_128, ↓al_129 _, ↓as_129, ↓al_130 _, ↓as_130, ↓al_131 _, ↓as_131, ↓al_132 _, ↓as_132, ↓al_133 _, ↓as_133, r0, w32_id, Int.sub_self]
        split <;> exact Ok_some ⟨rfl, hr, fun _ _ _ _ => rfl⟩
    · rw [if_neg ho]
      refine Ok_some ⟨?_, hr, fun _ _ _ _ => rfl⟩
      rcases hs with rfl | rfl
      · simp only [Int.sub_zero]; rw [if_neg (by omega)]
      · simp only [Int.sub_self]; rw [if_neg (by omega)]
  | succ n ih =>
    intro B g r hB h6
    have hr := r
    obtain ⟨r0, r1, -⟩ := r
    have hB' := hB
    unfold IB at hB
    have ih2 : ∀ (a : Int) (g : Mem), 0 ≤ a → a < 4 → caB B a → RB g (plB B a) → Ok (fun w g' => w = vaB (lfF side) side n (plB B a) ∧ RB g' (plB B a) ∧ FB g g') (MI X (d + n + 3) 84 [.inr (.inr 125), .inl (n : Int), .inl side] S0 (ov g)) := fun a g h1 h2 h3 h4 => ih _ g h4 (IB_pl hB' (by omega) h3 (by omega)) (by rw [(pl_all B a (by omega)).2.2.1]; omega)
    have iv : ∀ a, 0 ≤ a → a < 4 → caB B a → 0 ≤ vaB (lfF side) side n (plB B a) ∧ vaB (lfF side) side n (plB B a) ≤ 1 := fun a h1 h2 h3 => vaF_in side side n (IB_pl hB' (by omega) h3 (by omega)) (by rw [(pl_all B a (by omega)).2.2.1]; omega)
    have f0 := iv 0 (by omega) (by omega) (caB_0 B)
    rw [show d + (n + 1) + 3 = d + n + 3 + 1 by omega, e_84]
    simp (disch := omega) only [↓K_bou, ↓G_bou, ↓P_bou, ↓al_126 _, ↓as_126, ↓al_127 _, ↓as_127, ↓al_128 _, ↓as_128, ↓al_129 _, ↓as_129, ↓al_130 _, ↓as_130, ↓al_131 _, ↓as_131, ↓al_132 _, ↓as_132, ↓al_133 _, ↓as_133, ↓if_pos, ↓oC_of (c_7 hr), ↓if_b2i]
    unfold vaB
    by_cases ho : B 0 = 0 ∨ B 1 = 0
    · rw [if_pos ho, if_pos ho]
      unfold lfF
      rcases hs with rfl | rfl
      · simp (disch := omega) only [↓K_bou, ↓G_bou, ↓P_bou, ↓al_126 _, ↓as_126, ↓al_127 _, ↓as_127, ↓al_128 _, ↓as_128, ↓al_129 _, ↓as_129, ↓al_130 _, ↓as_130, ↓al_131 _, ↓as_131, ↓al_132 _, ↓as_132, ↓al_133 _, ↓as_133, r1, w32_id, Int.sub_zero]
        split <;> exact Ok_some ⟨rfl, hr, fun _ _ _ _ => rfl⟩
      · simp (disch := omega) only [↓K_bou, ↓G_bou, ↓P_bou, ↓al_126 _, ↓as_126, ↓al_127 _, ↓as_127, ↓al_128 _, ↓as_128, ↓al_129 _, ↓as_129, ↓al_130 _, ↓as_130, ↓al_131 _, ↓as_131, ↓al_132 _, ↓as_132, ↓al_133 _, ↓as_133, r0, w32_id, Int.sub_self]
        split <;> exact Ok_some ⟨rfl, hr, fun _ _ _ _ => rfl⟩
    · rw [if_neg ho, if_neg ho]
      have eu : bsF true (fun a => decide (caB B a)) (fun a => vaB (lfF side) side n (plB B a)) 4 0 0 = bsF true (fun a => decide (caB B a)) (fun a => vaB (lfF side) side n (plB B a)) 3 1 (vaB (lfF side) side n (plB B 0)) := by
        rw [bsF]
        simp only [caB_0, decide_true, cond_true, Int.zero_add]
        congr 1
        unfold am_max
        split <;> omega
      have ed : bsF false (fun a => decide (caB B a)) (fun a => vaB (lfF side) side n (plB B a)) 4 0 1 = bsF false (fun a => decide (caB B a)) (fun a => vaB (lfF side) side n (plB B a)) 3 1 (vaB (lfF side) side n (plB B 0)) := by
        rw [bsF]
        simp only [caB_0, decide_true, cond_true, cond_false, Int.zero_add]
        congr 1
        unfold am_min
        split <;> omega
      simp only [↓K_bou, ↓G_bou, ↓P_bou, ↓al_126 _, ↓as_126, ↓al_127 _, ↓as_127, ↓al_128 _, ↓as_128, ↓al_129 _, ↓as_129, ↓al_130 _, ↓as_130, ↓al_131 _, ↓as_131, ↓al_132 _, ↓as_132, ↓al_133 _, ↓as_133, ↓oC_of (c_6 hr hB'), ↓oC_of (c_15 hr hB')]
      by_cases e : B 6 % 2 = side
      · rw [if_pos e]
        simp only [e, decide_true]
        rw [← eu]
        exact c_84_u (d := d) hB' h6 side ih2 iv 4 0 g (by omega) (by omega) hr
      · rw [if_neg e]
        simp only [e, decide_false]
        rw [← ed]
        exact c_84_d (d := d) hB' h6 side ih2 iv 4 0 g (by omega) (by omega) hr
end
