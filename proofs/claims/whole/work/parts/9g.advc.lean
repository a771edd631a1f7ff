/-! TOKENS, the class: all of a text; the next one; what is wanted -/
/-- row j and those behind it hold the TOKENS from q on -/
def TA (t : Int → Int) (n : Int) (g : Mem) : Nat → Int → Int → Prop
  | 0, _, _ => False
  | f + 1, j, q => (rd g 12 j = kdP t n q ∧ rd g 13 j = q ∧ rd g 14 j = vaP t n q ∧ 0 ≤ q ∧ q ≤ n ∧ 0 ≤ j ∧ rd g 11 6 ≤ 900) ∧ (kdP t n q = 0 → j = rd g 11 6) ∧ (kdP t n q ≠ 0 → j < rd g 11 6) ∧ (kdP t n q ≠ 0 → kdP t n q ≠ 4 → TA t n g f (j + 1) (skP t n (enP t n q)))
theorem TA_fr {t : Int → Int} {n : Int} {g g' : Mem} (h6 : rd g' 11 6 = rd g 11 6) : ∀ (f : Nat) (j q : Int), (∀ c i, (c = 12 ∨ c = 13 ∨ c = 14) → j ≤ i → rd g' c i = rd g c i) → TA t n g f j q → TA t n g' f j q
  | 0, _, _, _, h => h
  | f + 1, j, q, fr, h => by
    obtain ⟨⟨a1, a2, a3, a4, a5, a6, a7⟩, b, c, e⟩ := h
    refine ⟨⟨(fr 12 j (by omega) (by omega)).trans a1, (fr 13 j (by omega) (by omega)).trans a2, (fr 14 j (by omega) (by omega)).trans a3, a4, a5, a6, by rw [h6]; exact a7⟩, by rw [h6]; exact b, by rw [h6]; exact c, fun x y => TA_fr h6 f (j + 1) _ (fun c i z w => fr c i z (by omega)) (e x y)⟩
theorem kdP_0 {t : Int → Int} {n q : Int} (h : n ≤ q) : kdP t n q = 0 := by unfold kdP; rw [if_pos h]
theorem kdP_r (t : Int → Int) {n q : Int} (h : ¬ n ≤ q) : 1 ≤ kdP t n q ∧ kdP t n q ≤ 4 := by
  unfold kdP
  rw [if_neg h]
  (repeat' split) <;> omega
theorem enP_b (t : Int → Int) {n q : Int} (h : ¬ n ≤ q) : q < enP t n q ∧ enP t n q ≤ n := by
  unfold enP
  rw [if_neg h]
  split
  · next z => have := ew_b t (n := n) (p := q) (by omega) z; omega
  · split
    · next z => have := ed_b t (n := n) (p := q) (by omega) z; omega
    · omega
/-- the class' word, by its value -/
def lwF (v : Int) : Nat → Int → Int → Int
  | 0, _, w => w
  | k + 1, i, w => lwF v k (i + 1) (if rsv i = v then i else w)
def wdP (t : Int → Int) (n q : Int) : Int := if kdP t n q = 1 then lwF (vaP t n q) 26 0 (-1) else -1
theorem lcm_eq (a b : Int) : (am_lcmp a b = 0) ↔ a = b := by
  unfold am_lcmp
  by_cases h : a < b
  · rw [if_pos h]; omega
  · rw [if_neg h]
    by_cases e : a = b
    · rw [if_pos e]; omega
    · rw [if_neg e]; omega
section
variable {X : Xs} {d : Nat} {g : Mem} {t : Int → Int} {n : Int}
theorem c_86_l (hr : txR t n) : ∀ (k : Nat) (i m : Int) (g : Mem), (n - i).toNat ≤ k → 0 ≤ i → i ≤ n → 0 ≤ m → m ≤ i → TXc t n g → rd g 11 6 = m → Ok (fun _ g' => TA t n g' (k + 1) m (skP t n i) ∧ (∀ c j, 0 ≤ c → 0 ≤ j → (c ≠ 11 ∨ j ≠ 6) → ((c ≠ 12 ∧ c ≠ 13 ∧ c ≠ 14) ∨ j < m) → rd g' c j = rd g c j)) (EI X (d + 3) 86 40 [some (.inr (.inr 11)), none, some (.inl i), none] [] S0 (ov g)) := by
  obtain ⟨n0, n9, hr'⟩ := id hr
  -- the end
  have fin : ∀ (k : Nat) (m : Int) (g : Mem), 0 ≤ m → m ≤ 900 → TXc t n g → rd g 11 6 = m → Ok (fun _ g' => TA t n g' (k + 1) m n ∧ (∀ c j, 0 ≤ c → 0 ≤ j → (c ≠ 12 ∧ c ≠ 13 ∧ c ≠ 14 ∨ j ≠ m) → rd g' c j = rd g c j)) (EI X (d + 3) 86 40 [some (.inr (.inr 11)), none, some (.inl n), none] [] S0 (ov g)) := fun k m g m0 m9 tx hm => by
    have w0 : w8 0 = 0 := by decide
    have w16n : w16 (w16 n) = n := by rw [w16_id (x := n) (by omega) (by omega), w16_id (x := n) (by omega) (by omega)]
    rw [e_86_40]
    simp (disch := omega) only [↓G_tok, tx.1, ↓if_neg, hm, w0, ↓as_12, rd_wr_ne, w16n, ↓as_13, ↓as_14]
    have k0 : kdP t n n = 0 := kdP_0 (Int.le_refl n)
    have v0 : vaP t n n = 0 := by unfold vaP; rw [if_pos (Int.le_refl n)]
    have e6 : rd (wr (wr (wr g 12 m 0) 13 m n) 14 m 0) 11 6 = m := by simp (disch := omega) only [rd_wr_ne]; exact hm
    refine Ok_some ⟨⟨⟨?_, ?_, ?_, n0, Int.le_refl n, m0, ?_⟩, fun _ => e6.symm, fun z => absurd k0 z, fun z => absurd k0 z⟩, fun c j c0 j0 h => ?_⟩
    · rw [k0]; simp (disch := omega) only [rd_wr_ne, rd_wr_eq]
    · simp (disch := omega) only [rd_wr_ne, rd_wr_eq]
    · rw [v0]; simp (disch := omega) only [rd_wr_eq]
    · rw [e6]; exact m9
    · have e : ∀ (h' : Mem) (a x : Int), 0 ≤ a → (c ≠ a ∨ j ≠ m) → rd (wr h' a m x) c j = rd h' c j := fun h' a x a0 z => by
        by_cases w : c = a
        · subst w; exact rd_wr_ix _ _ m0 j0 (by omega)
        · exact rd_wr_ne _ _ _ _ a0 c0 w
      rw [e _ _ _ (by omega) (by omega), e _ _ _ (by omega) (by omega), e _ _ _ (by omega) (by omega)]
  intro k
  induction k with
  | zero =>
    intro i m g hk i0 i1 m0 m1 tx hm
    have ei : i = n := by omega
    rw [sk_s, if_neg (fun z => by omega), ei]
    refine Ok_mono (fin 0 m g m0 (by omega) tx hm) (fun v g' q => ⟨q.1, fun c j a b x y => q.2 c j a b (by omega)⟩)
  | succ k ih =>
    intro i m g hk i0 i1 m0 m1 tx hm
    by_cases hin : i < n
    case neg =>
      have ei : i = n := by omega
      rw [sk_s, if_neg (fun z => by omega), ei]
      exact Ok_mono (fin (k + 1) m g m0 (by omega) tx hm) (fun v g' q => ⟨q.1, fun c j a b x y => q.2 c j a b (by omega)⟩)
    have ei := tx.2 i i0 hin
    rw [e_86_40]
    simp (disch := omega) only [↓G_tok, tx.1, ↓if_pos, ↓al_10, ei, ↓oC_of (c_99 _ _ _), ↓if_b2i]
    rw [sk_s]
    by_cases hB : isBl (t i)
    · rw [if_pos hB, if_pos ⟨hin, hB⟩, w32_id (x := i + 1) (by omega) (by omega), if_pos (by omega)]
      refine Ok_mono (ih (i + 1) m g (by omega) (by omega) (by omega) m0 (by omega) tx hm) (fun v g' q => ⟨?_, q.2⟩)
      -- more steps than needed
      have up : ∀ (f : Nat) (j q : Int), TA t n g' f j q → TA t n g' (f + 1) j q := by
        intro f
        induction f with
        | zero => intro j q h; exact h.elim
        | succ f ihf =>
          intro j q h
          obtain ⟨a, b, c, e⟩ := h
          exact ⟨a, b, c, fun x y => ihf _ _ (e x y)⟩
      exact up _ _ _ q.1
    · rw [if_neg hB, if_neg (fun z => hB z.2), K_tok, oC_of (c_87 (d := d) tx hr i0 hin hm m0 (by omega))]
      obtain ⟨q1, q2, q3, q4, q5⟩ := tkW_rd g (m := m) i (kdP t n i) (vaP t n i) m0
      generalize tkW g m i (kdP t n i) (vaP t n i) = g1 at q1 q2 q3 q4 q5
      have tx1 : TXc t n g1 := TXc_fr tx (q5 _ _ (by omega) (by omega) (by omega) (by omega)) (fun j a => q5 _ _ (by omega) a (by omega) (by omega))
      have eb := enP_b t (n := n) (q := i) (by omega)
      have kr := kdP_r t (n := n) (q := i) (by omega)
      by_cases h4 : kdP t n i = 4
      · rw [if_pos h4, if_neg (by omega)]
        simp only [↓G_tok, tx1.1]
        refine Ok_mono (fin k (m + 1) g1 (by omega) (by omega) tx1 q4) (fun v g' q => ⟨⟨⟨?_, ?_, ?_, i0, i1, m0, ?_⟩, fun z => by omega, fun _ => ?_, fun _ z => absurd h4 z⟩, fun c j a b x y => ?_⟩)
        · rw [q.2 _ _ (by omega) m0 (by omega)]; exact q2
        · rw [q.2 _ _ (by omega) m0 (by omega)]; exact q1
        · rw [q.2 _ _ (by omega) m0 (by omega)]; exact q3
        · rw [q.2 _ _ (by omega) (by omega) (by omega), q4]; omega
        · rw [q.2 _ _ (by omega) (by omega) (by omega), q4]; omega
        · rw [q.2 c j a b (by omega)]; exact q5 c j a b x (by omega)
      · rw [if_neg h4, if_pos eb.1]
        refine Ok_mono (ih (enP t n i) (m + 1) g1 (by omega) (by omega) eb.2 (by omega) (by omega) tx1 q4) (fun v g' q => ⟨⟨⟨?_, ?_, ?_, i0, i1, m0, ?_⟩, fun z => by omega, fun _ => ?_, fun _ _ => q.1⟩, fun c j a b x y => ?_⟩)
        · rw [q.2 _ _ (by omega) m0 (by omega) (by omega)]; exact q2
        · rw [q.2 _ _ (by omega) m0 (by omega) (by omega)]; exact q1
        · rw [q.2 _ _ (by omega) m0 (by omega) (by omega)]; exact q3
        · exact q.1.1.2.2.2.2.2.2
        · have := q.1
          obtain ⟨-, u1, u2, -⟩ := this
          by_cases z : kdP t n (skP t n (enP t n i)) = 0
          · have := u1 z; omega
          · have := u2 z; omega
        · rw [q.2 c j a b x (by omega)]; exact q5 c j a b x (by omega)
/-- the class is about to take the TOKEN at q -/
def Cs (t : Int → Int) (n : Int) (g : Mem) (q : Int) : Prop := ∃ f j, TA t n g f j q ∧ rd g 11 7 = j
/-- the class has taken the TOKEN at q -/
def Ct (t : Int → Int) (n : Int) (g : Mem) (q : Int) : Prop := rd g 11 9 = kdP t n q ∧ rd g 11 11 = vaP t n q ∧ rd g 11 8 = q ∧ rd g 11 10 = wdP t n q
/-- nothing but the TOKEN taken, the FAULT is other -/
def FK (g g' : Mem) : Prop := ∀ c i, 0 ≤ c → 0 ≤ i → (c ≠ 11 ∨ i < 7 ∨ 13 < i) → rd g' c i = rd g c i
theorem FK_tr {g g1 g2 : Mem} (h1 : FK g g1) (h2 : FK g1 g2) : FK g g2 := fun c i a b e => (h2 c i a b e).trans (h1 c i a b e)
theorem FK_rf (g : Mem) : FK g g := fun _ _ _ _ _ => rfl
theorem FK_wr (g : Mem) {i : Int} (x : Int) (h : 7 ≤ i ∧ i ≤ 13) : FK g (wr g 11 i x) := fun c j a b e => by
  by_cases z : c = 11
  · subst z; exact rd_wr_ix _ _ (by omega) b (by omega)
  · exact rd_wr_ne _ _ _ _ (by omega) a z
theorem Cs_FK {g' : Mem} {q : Int} (h : Cs t n g q) (f : FK g g') (h7 : rd g' 11 7 = rd g 11 7) : Cs t n g' q := by
  obtain ⟨k, j, ta, hj⟩ := h
  have j0 : 0 ≤ j := by
    cases k with
    | zero => exact ta.elim
    | succ k => exact ta.1.2.2.2.2.2.1
  exact ⟨k, j, TA_fr (f _ _ (by omega) (by omega) (by omega)) k j q (fun c i h z => f c i (by omega) (by omega) (by omega)) ta, h7.trans hj⟩
abbrev nxP (t : Int → Int) (n q : Int) : Int := skP t n (enP t n q)
theorem c_92_l (rw' : RWd g) {q : Int} (hk : rd g 11 9 = kdP t n q) (hv : rd g 11 11 = vaP t n q) (h1 : kdP t n q = 1) (j : Int) (j0 : 0 ≤ j) (j1 : j ≤ 900) : ∀ (k : Nat) (i w : Int) (g' : Mem), i + k = 26 → 0 ≤ i → rd g' 11 10 = w → (∀ c i, 0 ≤ c → 0 ≤ i → (c ≠ 11 ∨ i ≠ 10) → rd g' c i = rd g c i) → Ok (fun _ g2 => rd g2 11 10 = lwF (vaP t n q) k i w ∧ rd g2 11 7 = j + 1 ∧ (∀ c i, 0 ≤ c → 0 ≤ i → (c ≠ 11 ∨ (i ≠ 10 ∧ i ≠ 7)) → rd g2 c i = rd g c i)) (EI X d 92 60 [some (.inr (.inr 11)), some (.inl j), some (.inl i)] [] S0 (ov g')) := by
  intro k
  induction k with
  | zero =>
    intro i w g' hk' i0 hw fr
    have e9 : rd g' 11 9 = 1 := by rw [fr _ _ (by omega) (by omega) (by omega), hk, h1]
    rw [e_92_60]
    simp (disch := omega) only [↓G_tok, ↓P_tok, e9, ↓if_pos, ↓if_neg, w32_id]
    refine Ok_some ⟨?_, rd_wr_eq _ _ _ _, fun c i a b h => ?_⟩
    · rw [rd_wr_ix _ _ (by omega) (by omega) (by omega)]; exact hw
    · have e : rd (wr g' 11 7 (j + 1)) c i = rd g' c i := by
        by_cases z : c = 11
        · subst z; exact rd_wr_ix _ _ (by omega) b (by omega)
        · exact rd_wr_ne _ _ _ _ (by omega) a z
      rw [e]; exact fr c i a b (by omega)
  | succ k ih =>
    intro i w g' hk' i0 hw fr
    have e9 : rd g' 11 9 = 1 := by rw [fr _ _ (by omega) (by omega) (by omega), hk, h1]
    have e11 : rd g' 11 11 = vaP t n q := by rw [fr _ _ (by omega) (by omega) (by omega), hv]
    have e15 : rd g' 15 i = rsv i := by rw [fr _ _ (by omega) i0 (by omega)]; exact rw' i i0 (by omega)
    rw [e_92_60]
    simp (disch := omega) only [↓G_tok, ↓P_tok, e9, ↓if_pos, e11, ↓al_15, e15, lcm_eq, w32_id]
    show Ok (fun _ g2 => rd g2 11 10 = lwF (vaP t n q) k (i + 1) (if rsv i = vaP t n q then i else w) ∧ _) _
    by_cases z : rsv i = vaP t n q
    · rw [if_pos z, if_pos z]
      refine ih (i + 1) i (wr g' 11 10 i) (by omega) (by omega) (rd_wr_eq _ _ _ _) (fun c i' a b h => ?_)
      rw [← fr c i' a b h]
      by_cases w : c = 11
      · subst w; exact rd_wr_ix _ _ (by omega) b (by omega)
      · exact rd_wr_ne _ _ _ _ (by omega) a w
    · rw [if_neg z, if_neg z]
      exact ih (i + 1) w g' (by omega) (by omega) hw fr
theorem c_92 (rw' : RWd g) {q : Int} (cs : Cs t n g q) : Ok (fun _ g' => Ct t n g' q ∧ (kdP t n q ≠ 0 → kdP t n q ≠ 4 → Cs t n g' (nxP t n q)) ∧ FK g g' ∧ rd g' 11 12 = rd g 11 12 ∧ rd g' 11 13 = rd g 11 13) (MI X d 92 [.inr (.inr 11)] S0 (ov g)) := by
  obtain ⟨k, j, ta, hj⟩ := cs
  cases k with
  | zero => exact ta.elim
  | succ k =>
  obtain ⟨⟨a1, a2, a3, a4, a5, a6, a7⟩, b0, b1, b2⟩ := ta
  have hjm : j ≤ rd g 11 6 := by
    by_cases z : kdP t n q = 0
    · have := b0 z; omega
    · have := b1 z; omega
  have go : MI X d 92 [.inr (.inr 11)] S0 (ov g) = EI X d 92 60 [some (.inr (.inr 11)), some (.inl j), some (.inl 0)] [] S0 (ov (wr (wr (wr (wr g 11 9 (kdP t n q)) 11 11 (vaP t n q)) 11 8 q) 11 10 (-1))) := by
    rw [e_92]
    simp only [↓G_tok, hj]
    by_cases z : j < rd g 11 6
    · rw [if_pos z]
      simp (disch := omega) only [↓G_tok, ↓P_tok, hj, ↓al_12, ↓al_13, ↓al_14, rd_wr_ne, a1, a2, a3]
    · have ej : rd g 11 6 = j := by omega
      rw [if_neg z]
      simp (disch := omega) only [↓G_tok, ↓P_tok, ej, ↓al_12, ↓al_13, ↓al_14, rd_wr_ne, a1, a2, a3]
  rw [go]
  generalize hg1 : wr (wr (wr (wr g 11 9 (kdP t n q)) 11 11 (vaP t n q)) 11 8 q) 11 10 (-1) = g1
  have f1 : FK g g1 := by
    subst hg1
    exact FK_tr (FK_tr (FK_tr (FK_wr _ _ (by omega)) (FK_wr _ _ (by omega))) (FK_wr _ _ (by omega))) (FK_wr _ _ (by omega))
  have e9 : rd g1 11 9 = kdP t n q := by subst hg1; simp (disch := omega) only [rd_wr_ix, rd_wr_eq]
  have e11 : rd g1 11 11 = vaP t n q := by subst hg1; simp (disch := omega) only [rd_wr_ix, rd_wr_eq]
  have e8 : rd g1 11 8 = q := by subst hg1; simp (disch := omega) only [rd_wr_ix, rd_wr_eq]
  have e10 : rd g1 11 10 = -1 := by subst hg1; exact rd_wr_eq _ _ _ _
  have e12 : rd g1 11 12 = rd g 11 12 := by subst hg1; simp (disch := omega) only [rd_wr_ix]
  have e13 : rd g1 11 13 = rd g 11 13 := by subst hg1; simp (disch := omega) only [rd_wr_ix]
  clear hg1
  have fin : ∀ g2, rd g2 11 10 = wdP t n q → rd g2 11 7 = j + 1 → (∀ c i, 0 ≤ c → 0 ≤ i → (c ≠ 11 ∨ (i ≠ 10 ∧ i ≠ 7)) → rd g2 c i = rd g1 c i) → Ct t n g2 q ∧ (kdP t n q ≠ 0 → kdP t n q ≠ 4 → Cs t n g2 (nxP t n q)) ∧ FK g g2 ∧ rd g2 11 12 = rd g 11 12 ∧ rd g2 11 13 = rd g 11 13 := fun g2 q1 q2 q3 => by
    refine ⟨⟨?_, ?_, ?_, q1⟩, fun x y => ⟨k, j + 1, ?_, q2⟩, FK_tr f1 (fun c i a b h => q3 c i a b (by omega)), ?_, ?_⟩
    · rw [q3 _ _ (by omega) (by omega) (by omega)]; exact e9
    · rw [q3 _ _ (by omega) (by omega) (by omega)]; exact e11
    · rw [q3 _ _ (by omega) (by omega) (by omega)]; exact e8
    · refine TA_fr ?_ k (j + 1) _ (fun c i h z => ?_) (b2 x y)
      · rw [q3 _ _ (by omega) (by omega) (by omega)]; exact f1 _ _ (by omega) (by omega) (by omega)
      · rw [q3 _ _ (by omega) (by omega) (by omega)]; exact f1 _ _ (by omega) (by omega) (by omega)
    · rw [q3 _ _ (by omega) (by omega) (by omega)]; exact e12
    · rw [q3 _ _ (by omega) (by omega) (by omega)]; exact e13
  by_cases h1 : kdP t n q = 1
  · have rw1 : RWd g1 := RW_fr rw' (fun i a => f1 _ _ (by omega) a (by omega))
    refine Ok_mono (c_92_l rw1 e9 e11 h1 j a6 (by omega) 26 0 (-1) g1 (by omega) (by omega) e10 (fun _ _ _ _ _ => rfl)) ?_
    rintro v g2 ⟨q1, q2, q3⟩
    exact fin g2 (by rw [q1]; unfold wdP; rw [if_pos h1]) q2 q3
  · rw [e_92_60]
    simp (disch := omega) only [↓G_tok, ↓P_tok, e9, ↓if_neg, w32_id]
    refine Ok_some (fin _ ?_ (rd_wr_eq _ _ _ _) (fun c i a b h => ?_))
    · rw [rd_wr_ix _ _ (by omega) (by omega) (by omega), e10]; unfold wdP; rw [if_neg h1]
    · by_cases z : c = 11
      · subst z; exact rd_wr_ix _ _ (by omega) b (by omega)
      · exact rd_wr_ne _ _ _ _ (by omega) a z
/-- the FAULT told at q -/
def fcP (t : Int → Int) (n q why : Int) : Int := if kdP t n q = 4 then 1 else why
def Cf (g : Mem) (c p : Int) : Prop := rd g 11 12 = c ∧ rd g 11 13 = p
theorem c_93 {q : Int} (ct : Ct t n g q) (why : Int) : Ok (fun v g' => v = 0 ∧ Cf g' (fcP t n q why) q ∧ FK g g') (MI X d 93 [.inr (.inr 11), .inl why] S0 (ov g)) := by
  obtain ⟨c1, c2, c3, c4⟩ := ct
  rw [e_93]
  simp only [↓G_tok, ↓P_tok, c1]
  unfold fcP
  by_cases z : kdP t n q = 4
  · rw [if_pos z, if_pos z]
    simp (disch := omega) only [rd_wr_ix, c3]
    exact Ok_some ⟨rfl, ⟨by simp (disch := omega) only [rd_wr_ix, rd_wr_eq], by simp (disch := omega) only [rd_wr_eq]⟩, FK_tr (FK_wr _ _ (by omega)) (FK_wr _ _ (by omega))⟩
  · rw [if_neg z, if_neg z]
    simp (disch := omega) only [rd_wr_ix, c3]
    exact Ok_some ⟨rfl, ⟨by simp (disch := omega) only [rd_wr_ix, rd_wr_eq], by simp (disch := omega) only [rd_wr_eq]⟩, FK_tr (FK_wr _ _ (by omega)) (FK_wr _ _ (by omega))⟩
theorem c_94 {q : Int} (ct : Ct t n g q) (c : Int) : MI X d 94 [.inr (.inr 11), .inl c] S0 (ov g) = some (b2i (kdP t n q = 3 ∧ vaP t n q = c), S0, ov g) := by
  obtain ⟨c1, c2, c3, c4⟩ := ct
  rw [e_94]
  simp only [↓G_tok, c1, c2, lcm_eq]
  unfold b2i
  (repeat' split) <;> first | rfl | (exfalso; omega)
end
