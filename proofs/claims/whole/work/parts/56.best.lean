/-! BEST PLAY: values of a bout by so many turns -/
/-- the best of k ACTS from a on: the most (up) or the least -/
def bsF (up : Bool) (c : Int → Bool) (f : Int → Int) : Nat → Int → Int → Int
  | 0, _, m => m
  | k + 1, a, m => bsF up c f k (a + 1) (bif c a then (bif up then am_max m (f a) else am_min m (f a)) else m)
/-- which ACT is the first as good -/
def chF (up : Bool) (c : Int → Bool) (f : Int → Int) : Nat → Int → Int → Int → Int
  | 0, _, _, z => z
  | k + 1, a, m, z => bif c a && (bif up then decide (m < f a) else decide (f a < m)) then chF up c f k (a + 1) (f a) a else chF up c f k (a + 1) m z
def vaB (leaf : (Int → Int) → Int) (par : Int) : Nat → (Int → Int) → Int
  | 0, B => leaf B
  | n + 1, B => if B 0 = 0 ∨ B 1 = 0 then leaf B else bsF (decide (B 6 % 2 = par)) (fun a => decide (caB B a)) (fun a => vaB leaf par n (plB B a)) 3 1 (vaB leaf par n (plB B 0))
def lfV (B : Int → Int) : Int := B 0 - B 1
def lfF (side : Int) (B : Int → Int) : Int := if B (1 - side) = 0 then 1 else 0
/-- exact between low and high; beyond them a bound -/
def Pab (low high w v : Int) : Prop := (w ≤ low ∧ v ≤ low) ∨ (high ≤ w ∧ high ≤ v) ∨ w = v
theorem bsF_up (c : Int → Bool) (f : Int → Int) : ∀ (k : Nat) (a m : Int), m ≤ bsF true c f k a m
  | 0, _, m => Int.le_refl m
  | k + 1, a, m => by
    unfold bsF
    refine Int.le_trans ?_ (bsF_up c f k (a + 1) _)
    cases c a
    · exact Int.le_refl m
    · show m ≤ am_max m (f a)
      unfold am_max
      split <;> omega
theorem bsF_dn (c : Int → Bool) (f : Int → Int) : ∀ (k : Nat) (a m : Int), bsF false c f k a m ≤ m
  | 0, _, m => Int.le_refl m
  | k + 1, a, m => by
    unfold bsF
    refine Int.le_trans (bsF_dn c f k (a + 1) _) ?_
    cases c a
    · exact Int.le_refl m
    · show am_min m (f a) ≤ m
      unfold am_min
      split <;> omega
/-- what all values keep, the best of them keeps -/
theorem bsF_in (Q : Int → Prop) (up : Bool) (c : Int → Bool) (f : Int → Int) : ∀ (k : Nat) (a m : Int), Q m → (∀ b, a ≤ b → b < a + k → c b = true → Q (f b)) → Q (bsF up c f k a m)
  | 0, _, m, hm, _ => hm
  | k + 1, a, m, hm, h => by
    unfold bsF
    refine bsF_in Q up c f k (a + 1) _ ?_ (fun b h1 h2 h3 => h b (by omega) (by omega) h3)
    cases hc : c a
    · exact hm
    · have hq := h a (by omega) (by omega) hc
      cases up
      · show Q (am_min m (f a))
        unfold am_min
        split
        · exact hm
        · exact hq
      · show Q (am_max m (f a))
        unfold am_max
        split
        · exact hq
        · exact hm
theorem IB_pl {B : Int → Int} (hi : IB B) {a : Int} (ha : a = 0 ∨ a = 1 ∨ a = 2 ∨ a = 3) (hc : caB B a) (h6 : B 6 + 1 < 1000000) : IB (plB B a) := by
  have pr := pl_rng hi a ha hc
  have p3 := (pl_all B a ha).2.2.2
  have q7 := p3 7 (by omega)
  have q8 := p3 8 (by omega)
  have q9 := p3 9 (by omega)
  have q10 := p3 10 (by omega)
  have q11 := p3 11 (by omega)
  have q12 := p3 12 (by omega)
  have q13 := p3 13 (by omega)
  have q14 := p3 14 (by omega)
  have q15 := p3 15 (by omega)
  have q16 := p3 16 (by omega)
  have q17 := p3 17 (by omega)
  clear p3
  unfold IB at hi ⊢
  rw [q7, q8, q9, q10, q11, q12, q13, q14, q15, q16, q17]
  omega
theorem caB_0 (B : Int → Int) : caB B 0 := Or.inl rfl
/-- values lie where their leaves lie -/
theorem vaB_in (leaf : (Int → Int) → Int) (par : Int) (Q : Int → Prop) (hl : ∀ B, IB B → Q (leaf B)) : ∀ (n : Nat) (B : Int → Int), IB B → B 6 + n < 1000000 → Q (vaB leaf par n B) := by
  intro n
  induction n with
  | zero => intro B hi _; exact hl B hi
  | succ n ih =>
    intro B hi h6
    unfold vaB
    split
    · exact hl B hi
    · have st : ∀ a, 0 ≤ a → a < 4 → caB B a → Q (vaB leaf par n (plB B a)) := fun a h1 h2 h3 => ih _ (IB_pl hi (by omega) h3 (by omega)) (by rw [(pl_all B a (by omega)).2.2.1]; omega)
      exact bsF_in Q _ _ _ 3 1 _ (st 0 (by omega) (by omega) (caB_0 B)) (fun b h1 h2 h3 => st b (by omega) (by omega) (by simpa using h3))
theorem lfV_in {B : Int → Int} (h : IB B) : -60 ≤ lfV B ∧ lfV B ≤ 60 := by
  unfold IB at h
  unfold lfV
  omega
theorem lfF_in (side : Int) (B : Int → Int) : 0 ≤ lfF side B ∧ lfF side B ≤ 1 := by
  unfold lfF
  split <;> omega
theorem vaV_in (n : Nat) {B : Int → Int} (hi : IB B) (h6 : B 6 + n < 1000000) : -60 ≤ vaB lfV 0 n B ∧ vaB lfV 0 n B ≤ 60 := vaB_in lfV 0 (fun x => -60 ≤ x ∧ x ≤ 60) (fun _ h => lfV_in h) n B hi h6
theorem bsF_0 (up : Bool) (B : Int → Int) (f : Int → Int) (h1 : -1000 ≤ f 0) (h2 : f 0 ≤ 1000) : bsF up (fun a => decide (caB B a)) f 4 0 (bif up then -1000 else 1000) = bsF up (fun a => decide (caB B a)) f 3 1 (f 0) := by
  rw [bsF]
  simp only [caB_0, decide_true, cond_true, Int.zero_add]
  congr 1
  cases up
  · show am_min 1000 (f 0) = f 0
    unfold am_min
    split <;> omega
  · show am_max (-1000) (f 0) = f 0
    unfold am_max
    split <;> omega
section
variable {X : Xs} {d : Nat}
theorem c_82_u {n : Nat} {B : Int → Int} (hB : IB B) (h6 : B 6 + (n + 1 : Nat) < 1000000) (lo0 hi0 : Int)
    (ih : ∀ (a : Int) (g : Mem) (low high : Int), 0 ≤ a → a < 4 → caB B a → RB g (plB B a) → -1000 ≤ low → low < high → high ≤ 1000 → Ok (fun w g' => Pab low high w (vaB lfV 0 n (plB B a)) ∧ RB g' (plB B a) ∧ FB g g') (MI X (d + n + 3) 82 [.inr (.inr 125), .inl (n : Int), .inl low, .inl high] S0 (ov g)))
    (b1 : -1000 ≤ lo0) (b2 : hi0 ≤ 1000) : ∀ (k : Nat) (a lo f m : Int) (g : Mem), a + k = 4 → 0 ≤ a → RB g B → ((f ≤ lo0 ∧ lo = lo0) ∨ (lo0 ≤ f ∧ lo = f)) → Pab lo0 hi0 f m → (lo0 < hi0) → Ok (fun w g' => Pab lo0 hi0 w (bsF true (fun a => decide (caB B a)) (fun a => vaB lfV 0 n (plB B a)) k a m) ∧ RB g' B ∧ FB g g') (EI X (d + n + 4) 82 64 [some (.inr (.inr 125)), some (.inl ((n + 1 : Nat) : Int)), some (.inl lo), some (.inl hi0), some (.inl 1), some (.inl f), some (.inr (.inl (pkB B))), none, some (.inl a), none] [] S0 (ov g)) := by
  intro k
  induction k with
  | zero =>
    intro a lo f m g hk h0 r hv hp hlt
    rw [e_82_64]
    simp (disch := omega) only [↓if_neg]
    exact Ok_some ⟨hp, r, fun _ _ _ _ => rfl⟩
  | succ k ihk =>
    intro a lo f m g hk h0 r hv hp hlt
    have hn : (((n + 1 : Nat) : Int)) - 1 = (n : Int) := by omega
    have b60 : 0 ≤ B 6 := by unfold IB at hB; omega
    rw [e_82_64]
    by_cases cut : lo < hi0
    case neg =>
      simp (disch := omega) only [↓if_pos, ↓if_neg]
      refine Ok_some ⟨?_, r, fun _ _ _ _ => rfl⟩
      have := bsF_up (fun a => decide (caB B a)) (fun a => vaB lfV 0 n (plB B a)) (k + 1) a m
      unfold Pab at hp ⊢
      omega
    simp (disch := omega) only [↓K_bou, ↓G_bou, ↓P_bou, ↓al_126 _, ↓as_126, ↓al_127 _, ↓as_127, ↓al_128 _, ↓as_128, ↓al_129 _, ↓as_129, ↓al_130 _, ↓as_130, ↓al_131 _, ↓as_131, ↓al_132 _, ↓as_132, ↓al_133 _, ↓as_133, ↓if_pos, ↓oC_of (c_11 r hB _), ↓if_b2i]
    unfold bsF
    by_cases hc : caB B a
    case neg =>
      rw [if_neg hc]
      simp (disch := omega) only [w32_id, hc, decide_false, cond_false]
      exact ihk (a + 1) lo f m g (by omega) (by omega) r hv hp hlt
    rw [if_pos hc]
    simp only [hc, decide_true, cond_true]
    refine Ok_bind (c_13 r hB a (by omega) (by omega)) ?_
    rintro v2 g2 ⟨p1, p2, p3⟩
    simp (disch := omega) only [w32_id, hn]
    refine Ok_bind (ih a g2 lo hi0 h0 (by omega) hc p1 (by omega) cut (by omega)) ?_
    rintro w g3 ⟨q1, q2, q3⟩
    simp only [↓K_bou, ↓G_bou, ↓P_bou, ↓al_126 _, ↓as_126, ↓al_127 _, ↓as_127, ↓al_128 _, ↓as_128, ↓al_129 _, ↓as_129, ↓al_130 _, ↓as_130, ↓al_131 _, ↓as_131, ↓al_132 _, ↓as_132, ↓al_133 _, ↓as_133]
    refine Ok_bind (c_16 q2 hB (fun j j1 j2 => (pl_all B a (by omega)).2.2.2 j j1)) ?_
    rintro v4 g4 ⟨t1, t2⟩
    (try simp (disch := omega) only [↓if_pos, ↓if_neg, w32_id])
    have fr := FB_tr (FB_tr p3 q3) t2
    generalize vaB lfV 0 n (plB B a) = v at q1 ⊢
    refine Ok_mono (ihk (a + 1) (am_max lo w) (am_max f w) (am_max m v) g4 (by omega) (by omega) t1 ?_ ?_ hlt) (fun z g5 q => ⟨q.1, q.2.1, FB_tr fr q.2.2⟩)
    · unfold am_max
      (repeat' split) <;> omega
    · unfold Pab at hp q1 ⊢
      unfold am_max
      (repeat' split) <;> omega
theorem c_82_d {n : Nat} {B : Int → Int} (hB : IB B) (h6 : B 6 + (n + 1 : Nat) < 1000000) (lo0 hi0 : Int)
    (ih : ∀ (a : Int) (g : Mem) (low high : Int), 0 ≤ a → a < 4 → caB B a → RB g (plB B a) → -1000 ≤ low → low < high → high ≤ 1000 → Ok (fun w g' => Pab low high w (vaB lfV 0 n (plB B a)) ∧ RB g' (plB B a) ∧ FB g g') (MI X (d + n + 3) 82 [.inr (.inr 125), .inl (n : Int), .inl low, .inl high] S0 (ov g)))
    (b1 : -1000 ≤ lo0) (b2 : hi0 ≤ 1000) : ∀ (k : Nat) (a hh f m : Int) (g : Mem), a + k = 4 → 0 ≤ a → RB g B → ((hi0 ≤ f ∧ hh = hi0) ∨ (f ≤ hi0 ∧ hh = f)) → Pab lo0 hi0 f m → (lo0 < hi0) → Ok (fun w g' => Pab lo0 hi0 w (bsF false (fun a => decide (caB B a)) (fun a => vaB lfV 0 n (plB B a)) k a m) ∧ RB g' B ∧ FB g g') (EI X (d + n + 4) 82 64 [some (.inr (.inr 125)), some (.inl ((n + 1 : Nat) : Int)), some (.inl lo0), some (.inl hh), some (.inl 0), some (.inl f), some (.inr (.inl (pkB B))), none, some (.inl a), none] [] S0 (ov g)) := by
  intro k
  induction k with
  | zero =>
    intro a hh f m g hk h0 r hv hp hlt
    rw [e_82_64]
    simp (disch := omega) only [↓if_neg]
    exact Ok_some ⟨hp, r, fun _ _ _ _ => rfl⟩
  | succ k ihk =>
    intro a hh f m g hk h0 r hv hp hlt
    have hn : (((n + 1 : Nat) : Int)) - 1 = (n : Int) := by omega
    have b60 : 0 ≤ B 6 := by unfold IB at hB; omega
    rw [e_82_64]
    by_cases cut : lo0 < hh
    case neg =>
      simp (disch := omega) only [↓if_pos, ↓if_neg]
      refine Ok_some ⟨?_, r, fun _ _ _ _ => rfl⟩
      have := bsF_dn (fun a => decide (caB B a)) (fun a => vaB lfV 0 n (plB B a)) (k + 1) a m
      unfold Pab at hp ⊢
      omega
    simp (disch := omega) only [↓K_bou, ↓G_bou, ↓P_bou, ↓al_126 _, ↓as_126, ↓al_127 _, ↓as_127, ↓al_128 _, ↓as_128, ↓al_129 _, ↓as_129, ↓al_130 _, ↓as_130, ↓al_131 _, ↓as_131, ↓al_132 _, ↓as_132, ↓al_133 _, ↓as_133, ↓if_pos, ↓oC_of (c_11 r hB _), ↓if_b2i]
    unfold bsF
    by_cases hc : caB B a
    case neg =>
      rw [if_neg hc]
      simp (disch := omega) only [w32_id, hc, decide_false, cond_false]
      exact ihk (a + 1) hh f m g (by omega) (by omega) r hv hp hlt
    rw [if_pos hc]
    simp only [hc, decide_true, cond_true, cond_false]
    refine Ok_bind (c_13 r hB a (by omega) (by omega)) ?_
    rintro v2 g2 ⟨p1, p2, p3⟩
    simp (disch := omega) only [w32_id, hn]
    refine Ok_bind (ih a g2 lo0 hh h0 (by omega) hc p1 (by omega) cut (by omega)) ?_
    rintro w g3 ⟨q1, q2, q3⟩
    simp only [↓K_bou, ↓G_bou, ↓P_bou, ↓al_126 _, ↓as_126, ↓al_127 _, ↓as_127, ↓al_128 _, ↓as_128, ↓al_129 _, ↓as_129, ↓al_130 _, ↓as_130, ↓al_131 _, ↓as_131, ↓al_132 _, ↓as_132, ↓al_133 _, ↓as_133]
    refine Ok_bind (c_16 q2 hB (fun j j1 j2 => (pl_all B a (by omega)).2.2.2 j j1)) ?_
    rintro v4 g4 ⟨t1, t2⟩
    (try simp (disch := omega) only [↓if_pos, ↓if_neg, w32_id])
    have fr := FB_tr (FB_tr p3 q3) t2
    generalize vaB lfV 0 n (plB B a) = v at q1 ⊢
    refine Ok_mono (ihk (a + 1) (am_min hh w) (am_min f w) (am_min m v) g4 (by omega) (by omega) t1 ?_ ?_ hlt) (fun z g5 q => ⟨q.1, q.2.1, FB_tr fr q.2.2⟩)
    · unfold am_min
      (repeat' split) <;> omega
    · unfold Pab at hp q1 ⊢
      unfold am_min
      (repeat' split) <;> omega
theorem c_82 : ∀ (n : Nat) (B : Int → Int) (g : Mem) (low high : Int), RB g B → IB B → B 6 + n < 1000000 → -1000 ≤ low → low < high → high ≤ 1000 → Ok (fun w g' => Pab low high w (vaB lfV 0 n B) ∧ RB g' B ∧ FB g g') (MI X (d + n + 3) 82 [.inr (.inr 125), .inl (n : Int), .inl low, .inl high] S0 (ov g)) := by
  intro n
  induction n with
  | zero =>
    intro B g low high r hB h6 b1 b2 b3
    have hr := r
    obtain ⟨r0, r1, -⟩ := r
    have hB' := hB
    unfold IB at hB
    rw [e_82]
    simp (disch := omega) only [↓K_bou, ↓G_bou, ↓P_bou, ↓al_126 _, ↓as_126, ↓al_127 _, ↓as_127, ↓al_128 _, ↓as_128, ↓al_129 _, ↓as_129, ↓al_130 _, ↓as_130, ↓al_131 _, ↓as_131, ↓al_132 _, ↓as_132, ↓al_133 _, ↓as_133, ↓if_neg, r0, r1, w32_id]
    exact Ok_some ⟨Or.inr (Or.inr rfl), hr, fun _ _ _ _ => rfl⟩
  | succ n ih =>
    intro B g low high r hB h6 b1 b2 b3
    have hr := r
    obtain ⟨r0, r1, -⟩ := r
    have hB' := hB
    unfold IB at hB
    have iv := fun a h1 h2 h3 => vaV_in n (IB_pl hB' (a := a) h1 h2 h3)
    have ih2 : ∀ (a : Int) (g : Mem) (low high : Int), 0 ≤ a → a < 4 → caB B a → RB g (plB B a) → -1000 ≤ low → low < high → high ≤ 1000 → Ok (fun w g' => Pab low high w (vaB lfV 0 n (plB B a)) ∧ RB g' (plB B a) ∧ FB g g') (MI X (d + n + 3) 82 [.inr (.inr 125), .inl (n : Int), .inl low, .inl high] S0 (ov g)) := fun a g l h h1 h2 h3 h4 h5 h6' h7 => ih _ g l h h4 (IB_pl hB' (by omega) h3 (by omega)) (by rw [(pl_all B a (by omega)).2.2.1]; omega) h5 h6' h7
    have f0 := iv 0 (Or.inl rfl) (caB_0 B) (by omega) (by rw [(pl_all B 0 (Or.inl rfl)).2.2.1]; omega)
    rw [show d + (n + 1) + 3 = d + n + 3 + 1 by omega, e_82]
    simp (disch := omega) only [↓K_bou, ↓G_bou, ↓P_bou, ↓al_126 _, ↓as_126, ↓al_127 _, ↓as_127, ↓al_128 _, ↓as_128, ↓al_129 _, ↓as_129, ↓al_130 _, ↓as_130, ↓al_131 _, ↓as_131, ↓al_132 _, ↓as_132, ↓al_133 _, ↓as_133, ↓if_pos, ↓oC_of (c_7 hr), ↓if_b2i]
    unfold vaB
    by_cases ho : B 0 = 0 ∨ B 1 = 0
    · rw [if_pos ho, if_pos ho]
      simp (disch := omega) only [↓K_bou, ↓G_bou, ↓P_bou, ↓al_126 _, ↓as_126, ↓al_127 _, ↓as_127, ↓al_128 _, ↓as_128, ↓al_129 _, ↓as_129, ↓al_130 _, ↓as_130, ↓al_131 _, ↓as_131, ↓al_132 _, ↓as_132, ↓al_133 _, ↓as_133, r0, r1, w32_id]
      exact Ok_some ⟨Or.inr (Or.inr rfl), hr, fun _ _ _ _ => rfl⟩
    · rw [if_neg ho, if_neg ho]
      have hm : B 6 % 2 = 0 ∨ B 6 % 2 = 1 := by omega
      simp only [↓K_bou, ↓G_bou, ↓P_bou, ↓al_126 _, ↓as_126, ↓al_127 _, ↓as_127, ↓al_128 _, ↓as_128, ↓al_129 _, ↓as_129, ↓al_130 _, ↓as_130, ↓al_131 _, ↓as_131, ↓al_132 _, ↓as_132, ↓al_133 _, ↓as_133, ↓oC_of (c_6 hr hB'), ↓oC_of (c_15 hr hB')]
      rcases hm with e | e
      · rw [if_pos e]
        simp only [e, decide_true, Int.reduceEq, ↓reduceIte]
        rw [← bsF_0 true B _ (by omega) (by omega)]
        exact c_82_u (d := d) hB' h6 low high ih2 b1 b3 4 0 low (-1000) (-1000) g (by omega) (by omega) hr (by omega) (Or.inr (Or.inr rfl)) b2
      · rw [if_neg (by omega)]
        simp only [e, Int.reduceEq, decide_false, ↓reduceIte]
        rw [← bsF_0 false B _ (by omega) (by omega)]
        exact c_82_d (d := d) hB' h6 low high ih2 b1 b3 4 0 high 1000 1000 g (by omega) (by omega) hr (by omega) (Or.inr (Or.inr rfl)) b2
end
