/-! blocks of STEPS grow: one STEP more, a block opened, a block closed -/
section
variable {n0 n1 : Int} {cw R : Int → Int → Int}
theorem Blk_rf : ∀ (f : Nat) (D i p : Int), Blk n0 n1 cw R f D i i p p
  | 0, _, _, _ => ⟨rfl, rfl⟩
  | _ + 1, _, _, _ => Or.inl ⟨rfl, rfl⟩
theorem Blk_up : ∀ (f : Nat) (D i j p q : Int), Blk n0 n1 cw R f D i j p q → Blk n0 n1 cw R (f + 1) D i j p q
  | 0, _, _, _, _, _, h => Or.inl h
  | f + 1, D, i, j, p, q, h => by
    rcases h with h | ⟨h1, h2, h3⟩ | ⟨h1, h2, h3, p', h4, h5, h6, h7, h8⟩
    · exact Or.inl h
    · exact Or.inr (Or.inl ⟨h1, h2, Blk_up f _ _ _ _ _ h3⟩)
    · exact Or.inr (Or.inr ⟨h1, h2, h3, p', h4, h5, h6, Blk_up f _ _ _ _ _ h7, Blk_up f _ _ _ _ _ h8⟩)
theorem Blk_ups (k : Nat) {f : Nat} {D i j p q : Int} (h : Blk n0 n1 cw R f D i j p q) : Blk n0 n1 cw R (f + k) D i j p q := by
  induction k with
  | zero => exact h
  | succ k ih => exact Blk_up _ _ _ _ _ _ ih
/-- a STEP that opens no block -/
abbrev okL (n1 : Int) (cw R : Int → Int → Int) (j q : Int) : Prop := (cw 0 j = 25 ∧ R q 0 = 22) ∨ (okI n1 (cw 0 j) (cw 3 j) (cw 4 j) (cw 5 j) ∧ mS (R q) (cw 0 j) (cw 3 j) (cw 4 j) (cw 5 j))
theorem Blk_app1 {j q : Int} (h6 : cw 6 j = j + 1) (ok : okL n1 cw R j q) : ∀ (f : Nat) (D i p : Int), Blk n0 n1 cw R f D i j p q → Blk n0 n1 cw R (f + 1) D i (j + 1) p (q + 1)
  | 0, D, i, p, h => by
    obtain ⟨h1, h2⟩ := h
    subst h1; subst h2
    exact Or.inr (Or.inl ⟨h6, ok, ⟨rfl, rfl⟩⟩)
  | f + 1, D, i, p, h => by
    rcases h with ⟨h1, h2⟩ | ⟨h1, h2, h3⟩ | ⟨h1, h2, h3, p', h4, h5, h6', h7, h8⟩
    · subst h1; subst h2
      exact Or.inr (Or.inl ⟨h6, ok, Blk_rf _ _ _ _⟩)
    · exact Or.inr (Or.inl ⟨h1, h2, Blk_app1 h6 ok f _ _ _ h3⟩)
    · exact Or.inr (Or.inr ⟨h1, h2, h3, p', h4, h5, h6', Blk_up f _ _ _ _ _ h7, Blk_app1 h6 ok f _ _ _ h8⟩)
theorem Blk_app2 {j q p' : Int} {f2 : Nat} (ok : okO n0 n1 (cw 0 j) (cw 1 j) (cw 3 j) (cw 5 j)) (m : mO (R q) (cw 0 j) (cw 1 j) (cw 2 j) (cw 3 j) (cw 5 j)) (e4 : R q 4 = p') (e0 : R p' 0 = 21) (e5 : R p' 4 = q) {D : Int} (hD : D < 3) (hb : Blk n0 n1 cw R f2 (D + 1) (j + 1) (cw 6 j) (q + 1) p') : ∀ (f : Nat) (i p : Int), Blk n0 n1 cw R f D i j p q → Blk n0 n1 cw R (f2 + f + 1) D i (cw 6 j) p (p' + 1)
  | 0, i, p, h => by
    obtain ⟨h1, h2⟩ := h
    subst h1; subst h2
    exact Or.inr (Or.inr ⟨hD, ok, m, p', e4, e0, e5, hb, Blk_rf _ _ _ _⟩)
  | f + 1, i, p, h => by
    rcases h with ⟨h1, h2⟩ | ⟨h1, h2, h3⟩ | ⟨h1, h2, h3, p2, h4, h5, h6', h7, h8⟩
    · subst h1; subst h2
      exact Or.inr (Or.inr ⟨hD, ok, m, p', e4, e0, e5, Blk_ups (f + 1) hb, Blk_rf _ _ _ _⟩)
    · exact Or.inr (Or.inl ⟨h1, h2, Blk_app2 ok m e4 e0 e5 hD hb f _ _ h3⟩)
    · refine Or.inr (Or.inr ⟨h1, h2, h3, p2, h4, h5, h6', ?_, Blk_app2 ok m e4 e0 e5 hD hb f _ _ h8⟩)
      have := Blk_ups (f2 + 1) h7
      rw [show f + (f2 + 1) = f2 + f + 1 by omega] at this
      exact this
/-- the blocks still open: oc, om tell the STEP, the row that opened each -/
def CHn (n0 n1 : Int) (cw R : Int → Int → Int) (oc om : Int → Int) : Nat → Int → Int → Prop
  | 0, j, q => ∃ f, Blk n0 n1 cw R f 0 0 j 0 q
  | l + 1, j, q => CHn n0 n1 cw R oc om l (oc l) (om l) ∧ okO n0 n1 (cw 0 (oc l)) (cw 1 (oc l)) (cw 3 (oc l)) (cw 5 (oc l)) ∧ mO (R (om l)) (cw 0 (oc l)) (cw 1 (oc l)) (cw 2 (oc l)) (cw 3 (oc l)) (cw 5 (oc l)) ∧ ∃ f, Blk n0 n1 cw R f ((l : Int) + 1) (oc l + 1) j (om l + 1) q
variable {oc om : Int → Int}
theorem CH_le : ∀ (l : Nat) (j q : Int), CHn n0 n1 cw R oc om l j q → 0 ≤ j ∧ 0 ≤ q ∧ ∀ k : Nat, k < l → 0 ≤ oc k ∧ oc k < j ∧ 0 ≤ om k ∧ om k < q
  | 0, j, q, h => by
    obtain ⟨f, h⟩ := h
    have := Blk_le _ _ _ _ _ _ h
    exact ⟨this.1, this.2, fun k hk => absurd hk (Nat.not_lt_zero k)⟩
  | l + 1, j, q, h => by
    obtain ⟨h1, -, -, f, h4⟩ := h
    obtain ⟨a, b, c⟩ := CH_le l _ _ h1
    have e := Blk_le _ _ _ _ _ _ h4
    refine ⟨by omega, by omega, fun k hk => ?_⟩
    by_cases z : k = l
    · subst z; omega
    · have := c k (by omega)
      omega
theorem CH_app {j q : Int} (h6 : cw 6 j = j + 1) (ok : okL n1 cw R j q) : ∀ (l : Nat), CHn n0 n1 cw R oc om l j q → CHn n0 n1 cw R oc om l (j + 1) (q + 1)
  | 0, h => by
    obtain ⟨f, h⟩ := h
    exact ⟨f + 1, Blk_app1 h6 ok f _ _ _ h⟩
  | l + 1, h => by
    obtain ⟨h1, h2, h3, f, h4⟩ := h
    exact ⟨h1, h2, h3, f + 1, Blk_app1 h6 ok f _ _ _ h4⟩
theorem CH_op {l : Nat} {j q : Int} (h : CHn n0 n1 cw R oc om l j q) (ok : okO n0 n1 (cw 0 j) (cw 1 j) (cw 3 j) (cw 5 j)) (m : mO (R q) (cw 0 j) (cw 1 j) (cw 2 j) (cw 3 j) (cw 5 j)) (e1 : oc l = j) (e2 : om l = q) : CHn n0 n1 cw R oc om (l + 1) (j + 1) (q + 1) := by
  subst e1; subst e2
  exact ⟨h, ok, m, 0, rfl, rfl⟩
theorem CH_cl {l : Nat} (hl : l < 3) {j q : Int} (h : CHn n0 n1 cw R oc om (l + 1) j q) (e6 : cw 6 (oc l) = j) (e4 : R (om l) 4 = q) (e0 : R q 0 = 21) (e5 : R q 4 = om l) : CHn n0 n1 cw R oc om l j (q + 1) := by
  obtain ⟨h1, h2, h3, f2, h4⟩ := h
  subst e6
  cases l with
  | zero =>
    obtain ⟨f, h1⟩ := h1
    exact ⟨_, Blk_app2 h2 h3 e4 e0 e5 (by omega) h4 f _ _ h1⟩
  | succ l =>
    obtain ⟨k1, k2, k3, f, k4⟩ := h1
    exact ⟨k1, k2, k3, _, Blk_app2 h2 h3 e4 e0 e5 (by omega) h4 f _ _ k4⟩
end
/-- what is written behind, or to close the block opened last, leaves it -/
theorem CH_congr {n0 n1 : Int} {cw R cw' R' : Int → Int → Int} {oc om oc' om' : Int → Int} : ∀ (l : Nat) (j q : Int), (∀ k t, 0 ≤ k → k ≤ 6 → 0 ≤ t → t < j → cw' k t = cw k t) → (∀ r k, 0 ≤ r → r < q → 0 ≤ k → k < 6 → R' r k = R r k) → (∀ k : Nat, k < l → oc' k = oc k ∧ om' k = om k) → CHn n0 n1 cw R oc om l j q → CHn n0 n1 cw' R' oc' om' l j q
  | 0, j, q, hc, hr, _, h => by
    obtain ⟨f, h⟩ := h
    exact ⟨f, Blk_congr (Int.le_refl _) f 0 0 j 0 q (fun k t a b c e => hc k t a b c e) (fun r k a b c e => hr r k a b c e) h⟩
  | l + 1, j, q, hc, hr, ho, h => by
    have le := CH_le (l + 1) j q h
    obtain ⟨h1, h2, h3, f, h4⟩ := h
    obtain ⟨a1, a2, a3, a4⟩ := le.2.2 l (by omega)
    obtain ⟨o1, o2⟩ := ho l (by omega)
    have c : ∀ k, 0 ≤ k → k ≤ 6 → cw' k (oc l) = cw k (oc l) := fun k x y => hc k _ x y a1 a2
    have r : ∀ k, 0 ≤ k → k < 6 → R' (om l) k = R (om l) k := fun k x y => hr _ k a3 a4 x y
    refine ⟨?_, ?_, ?_, f, ?_⟩
    · rw [o1, o2]
      exact CH_congr l _ _ (fun k t x y z w => hc k t x y z (by omega)) (fun r k x y z w => hr r k x (by omega) z w) (fun k hk => ho k (by omega)) h1
    · rw [o1, c 0 (by omega) (by omega), c 1 (by omega) (by omega), c 3 (by omega) (by omega), c 5 (by omega) (by omega)]; exact h2
    · rw [o1, o2]
      unfold mO at h3 ⊢
      rw [c 0 (by omega) (by omega), c 1 (by omega) (by omega), c 2 (by omega) (by omega), c 3 (by omega) (by omega), c 5 (by omega) (by omega), r 0 (by omega) (by omega), r 1 (by omega) (by omega), r 2 (by omega) (by omega), r 5 (by omega) (by omega)]
      exact h3
    · rw [o1, o2]
      exact Blk_congr (Int.le_refl _) f _ _ _ _ _ (fun k t x y z w => hc k t x y (by omega) w) (fun r k x y z w => hr r k (by omega) y z w) h4
