/-! a DAWN of both with NAMES and YEARS: in use (slot 0) or MARKED (slots 1 to 3) -/
theorem Blk_congr {n0 n1 n0' : Int} {cw cw' R R' : Int → Int → Int} (hn : n0 ≤ n0') : ∀ (f : Nat) (D i j p q : Int), (∀ k t, 0 ≤ k → k ≤ 6 → i ≤ t → t < j → cw' k t = cw k t) → (∀ r k, p ≤ r → r < q → 0 ≤ k → k < 6 → R' r k = R r k) → Blk n0 n1 cw R f D i j p q → Blk n0' n1 cw' R' f D i j p q
  | 0, D, i, j, p, q, _, _, h => h
  | f + 1, D, i, j, p, q, hc, hr, h => by
    rcases h with ⟨h1, h2⟩ | ⟨h1, h2, h3⟩ | ⟨h1, h2, h3, p', h4, h5, h6, h7, h8⟩
    · exact Or.inl ⟨h1, h2⟩
    · have l := Blk_le _ _ _ _ _ _ h3
      have c : ∀ k, 0 ≤ k → k ≤ 6 → cw' k i = cw k i := fun k a b => hc k i a b (by omega) (by omega)
      have r : ∀ k, 0 ≤ k → k < 6 → R' p k = R p k := fun k a b => hr p k (by omega) (by omega) a b
      refine Or.inr (Or.inl ⟨?_, ?_, Blk_congr hn f D (i + 1) j (p + 1) q (fun k t a b e g => hc k t a b (by omega) g) (fun r k a b e g => hr r k (by omega) b e g) h3⟩)
      · rw [c 6 (by omega) (by omega)]; exact h1
      · unfold mS at h2 ⊢
        rw [c 0 (by omega) (by omega), c 3 (by omega) (by omega), c 4 (by omega) (by omega), c 5 (by omega) (by omega), r 0 (by omega) (by omega), r 1 (by omega) (by omega), r 2 (by omega) (by omega)]
        exact h2
    · have l7 := Blk_le _ _ _ _ _ _ h7
      have l8 := Blk_le _ _ _ _ _ _ h8
      have c : ∀ k, 0 ≤ k → k ≤ 6 → cw' k i = cw k i := fun k a b => hc k i a b (by omega) (by omega)
      have r : ∀ k, 0 ≤ k → k < 6 → R' p k = R p k := fun k a b => hr p k (by omega) (by omega) a b
      have r' : ∀ k, 0 ≤ k → k < 6 → R' p' k = R p' k := fun k a b => hr p' k (by omega) (by omega) a b
      refine Or.inr (Or.inr ⟨h1, ?_, ?_, p', ?_, ?_, ?_, ?_, ?_⟩)
      · rw [c 0 (by omega) (by omega), c 1 (by omega) (by omega), c 3 (by omega) (by omega), c 5 (by omega) (by omega)]
        rcases h2 with h2 | ⟨w, t | t | ⟨t, t2, t3⟩ | t⟩
        · exact Or.inl h2
        · exact Or.inr ⟨w, Or.inl t⟩
        · exact Or.inr ⟨w, Or.inr (Or.inl t)⟩
        · exact Or.inr ⟨w, Or.inr (Or.inr (Or.inl ⟨t, t2, by omega⟩))⟩
        · exact Or.inr ⟨w, Or.inr (Or.inr (Or.inr t))⟩
      · unfold mO at h3 ⊢
        rw [c 0 (by omega) (by omega), c 1 (by omega) (by omega), c 2 (by omega) (by omega), c 3 (by omega) (by omega), c 5 (by omega) (by omega), r 0 (by omega) (by omega), r 1 (by omega) (by omega), r 2 (by omega) (by omega), r 5 (by omega) (by omega)]
        exact h3
      · rw [r 4 (by omega) (by omega)]; exact h4
      · rw [r' 0 (by omega) (by omega)]; exact h5
      · rw [r' 4 (by omega) (by omega)]; exact h6
      · rw [c 6 (by omega) (by omega)]
        exact Blk_congr hn f (D + 1) (i + 1) (cw 6 i) (p + 1) p' (fun k t a b e g => hc k t a b (by omega) (by omega)) (fun r k a b e g => hr r k (by omega) (by omega) e g) h7
      · rw [c 6 (by omega) (by omega)]
        exact Blk_congr hn f D (cw 6 i) j (p' + 1) q (fun k t a b e g => hc k t a b (by omega) g) (fun r k a b e g => hr r k (by omega) b e g) h8
/-- the NAMES of both -/
def NM (g : Mem) (b k : Int) (s : Int → Int) : Prop := (∀ t, 0 ≤ t → t < s 0 → rd g (b + 11) t = rd g 145 (14 * k + t)) ∧ (∀ m, 0 ≤ m → m < s 1 → rd g (b + 12) m = rd g 145 (14 * k + 8 + m))
abbrev cwG (g : Mem) (b : Int) : Int → Int → Int := fun k t => rd g (b + 14 + k) t
abbrev rwG (g : Mem) (k : Int) : Int → Int → Int := fun r j => rd g 144 (472 * k + 104 + 6 * r + j)
/-- the YEARS of both -/
def YR (g : Mem) (b k : Int) (s : Int → Int) : Prop := (0 ≤ rd g (b + 13) 1 ∧ rd g (b + 13) 1 ≤ 30) ∧ ((rd g (b + 13) 0 = 0 ∧ s 11 = -1) ∨ (rd g (b + 13) 0 = 1 ∧ 0 ≤ s 11 ∧ s 11 ≤ 60 ∧ ∃ f, Blk (s 0) (s 1) (cwG g b) (rwG g k) f 0 0 (rd g (b + 13) 1) 0 (s 11)))
def DS (N : Int) (g : Mem) (b k : Int) (s : Int → Int) : Prop := RD g b s ∧ (∀ i, 0 ≤ i → i < 104 → rd g 144 (472 * k + i) = s i) ∧ Iv N s ∧ NM g b k s ∧ YR g b k s
theorem YR_fr {g g' : Mem} {b k b' k' : Int} {s s' : Int → Int} (h : YR g b k s) (h0 : s 0 ≤ s' 0) (h1 : s' 1 = s 1) (h11 : s' 11 = s 11) (f0 : rd g' (b' + 13) 0 = rd g (b + 13) 0) (f1 : rd g' (b' + 13) 1 = rd g (b + 13) 1) (fc : ∀ c t, 14 ≤ c → c ≤ 20 → 0 ≤ t → t < rd g (b + 13) 1 → rd g' (b' + c) t = rd g (b + c) t) (fm : ∀ i, 104 ≤ i → i < 464 → rd g' 144 (472 * k' + i) = rd g 144 (472 * k + i)) : YR g' b' k' s' := by
  obtain ⟨a, h⟩ := h
  unfold YR
  rw [f1, f0, h1, h11]
  refine ⟨a, ?_⟩
  rcases h with h | ⟨b1, b2, b3, f, b4⟩
  · exact Or.inl h
  · refine Or.inr ⟨b1, b2, b3, f, Blk_congr h0 f 0 _ _ _ _ (fun c t x y z w => ?_) (fun r j x y z w => ?_) b4⟩
    · have := fc (14 + c) t (by omega) (by omega) (by omega) w
      show rd g' (b' + 14 + c) t = rd g (b + 14 + c) t
      rw [show b' + 14 + c = b' + (14 + c) by omega, show b + 14 + c = b + (14 + c) by omega]
      exact this
    · have := fm (104 + 6 * r + j) (by omega) (by omega)
      show rd g' 144 (472 * k' + 104 + 6 * r + j) = rd g 144 (472 * k + 104 + 6 * r + j)
      rw [show 472 * k' + 104 + 6 * r + j = 472 * k' + (104 + 6 * r + j) by omega, show 472 * k + 104 + 6 * r + j = 472 * k + (104 + 6 * r + j) by omega]
      exact this
theorem DS_fr {N : Int} {g g' : Mem} {b k : Int} {s : Int → Int} (h : DS N g b k s) (fb : ∀ c i, b ≤ c → c ≤ b + 20 → 0 ≤ i → rd g' c i = rd g c i) (fm : ∀ i, 0 ≤ i → i < 472 → rd g' 144 (472 * k + i) = rd g 144 (472 * k + i)) (fn : ∀ i, 0 ≤ i → i < 14 → rd g' 145 (14 * k + i) = rd g 145 (14 * k + i)) : DS N g' b k s := by
  obtain ⟨r, m, iv, ⟨n1, n2⟩, y⟩ := h
  obtain ⟨i0, i1, i2, i3, -⟩ := id iv
  refine ⟨?_, fun i a c => (fm i a (by omega)).trans (m i a c), iv, ⟨fun t a c => ?_, fun t a c => ?_⟩, YR_fr y (Int.le_refl _) rfl rfl (fb _ _ (by omega) (by omega) (by omega)) (fb _ _ (by omega) (by omega) (by omega)) (fun c t x y z w => fb _ _ (by omega) (by omega) z) (fun i a c => fm i (by omega) (by omega))⟩
  · obtain ⟨r0, r1, r2, rt, rm, rw', r6, r7⟩ := r
    unfold RD
    rw [fb b 0 (by omega) (by omega) (by omega), fb b 1 (by omega) (by omega) (by omega), fb b 14 (by omega) (by omega) (by omega), fb b 15 (by omega) (by omega) (by omega), fb b 16 (by omega) (by omega) (by omega), fb b 17 (by omega) (by omega) (by omega), fb b 18 (by omega) (by omega) (by omega)]
    refine ⟨r0, r1, fun i a c => ?_, fun t a c => ?_, fun m a c => ?_, fun m o a c e f => ?_, r6, r7⟩
    · rw [fb _ _ (by omega) (by omega) a]; exact r2 i a c
    · rw [fb _ _ (by omega) (by omega) a, fb _ _ (by omega) (by omega) a, fb _ _ (by omega) (by omega) a, fb _ _ (by omega) (by omega) a]; exact rt t a c
    · rw [fb _ _ (by omega) (by omega) a, fb _ _ (by omega) (by omega) a, fb _ _ (by omega) (by omega) a, fb _ _ (by omega) (by omega) a]; exact rm m a c
    · rw [fb _ _ (by omega) (by omega) (by omega)]; exact rw' m o a c e f
  · rw [fb _ _ (by omega) (by omega) a, fn t a (by omega)]; exact n1 t a c
  · have q := fn (8 + t) (by omega) (by omega)
    rw [show 14 * k + (8 + t) = 14 * k + 8 + t by omega] at q
    rw [fb _ _ (by omega) (by omega) a, q]; exact n2 t a c
theorem DS_RM {N : Int} {g : Mem} {b : Int} {s : Int → Int} (h : DS N g b 0 s) : RM g s := fun i a c => by
  have := h.2.1 i a c
  rw [show 472 * 0 + i = i by omega] at this
  exact this
theorem DS_le {N M : Int} {g : Mem} {b k : Int} {s : Int → Int} (h : DS N g b k s) (l : N ≤ M) : DS M g b k s := ⟨h.1, h.2.1, Iv_le h.2.2.1 l, h.2.2.2⟩
/-- a slot behind a copy -/
theorem DS_TK {N : Int} {g g1 g2 : Mem} {b b' k k' : Int} {s : Int → Int} (h : DS N g b' k' s) (t : TK g b' g1 b) (f12 : ∀ c i, b ≤ c → c ≤ b + 20 → 0 ≤ i → rd g2 c i = rd g1 c i) (fm : ∀ i, 0 ≤ i → i < 472 → rd g2 144 (472 * k + i) = rd g 144 (472 * k' + i)) (fn : ∀ i, 0 ≤ i → i < 14 → rd g2 145 (14 * k + i) = rd g 145 (14 * k' + i)) : DS N g2 b k s := by
  obtain ⟨r, m, iv, ⟨n1, n2⟩, y⟩ := h
  obtain ⟨i0, i1, i2, i3, -⟩ := id iv
  have t' := id t
  obtain ⟨-, ta, t0, t1, ty⟩ := t'
  have rd1 := RD_TK r t i1 i3
  refine ⟨?_, fun i a c => (fm i a (by omega)).trans (m i a c), iv, ⟨fun t a c => ?_, fun t a c => ?_⟩, YR_fr y (Int.le_refl _) rfl rfl ((f12 _ _ (by omega) (by omega) (by omega)).trans t0) ((f12 _ _ (by omega) (by omega) (by omega)).trans t1) (fun c t x y z w => (f12 _ _ (by omega) (by omega) z).trans (ty c t x y z w)) (fun i a c => fm i (by omega) (by omega))⟩
  · obtain ⟨r0, r1, r2, rt, rm, rw', r6, r7⟩ := rd1
    unfold RD
    rw [f12 b 0 (by omega) (by omega) (by omega), f12 b 1 (by omega) (by omega) (by omega), f12 b 14 (by omega) (by omega) (by omega), f12 b 15 (by omega) (by omega) (by omega), f12 b 16 (by omega) (by omega) (by omega), f12 b 17 (by omega) (by omega) (by omega), f12 b 18 (by omega) (by omega) (by omega)]
    refine ⟨r0, r1, fun i a c => ?_, fun t a c => ?_, fun m a c => ?_, fun m o a c e f => ?_, r6, r7⟩
    · rw [f12 _ _ (by omega) (by omega) a]; exact r2 i a c
    · rw [f12 _ _ (by omega) (by omega) a, f12 _ _ (by omega) (by omega) a, f12 _ _ (by omega) (by omega) a, f12 _ _ (by omega) (by omega) a]; exact rt t a c
    · rw [f12 _ _ (by omega) (by omega) a, f12 _ _ (by omega) (by omega) a, f12 _ _ (by omega) (by omega) a, f12 _ _ (by omega) (by omega) a]; exact rm m a c
    · rw [f12 _ _ (by omega) (by omega) (by omega)]; exact rw' m o a c e f
  · have l : ((lnD 11 : Nat) : Int) = 8 := rfl
    rw [f12 _ _ (by omega) (by omega) a, ta 11 t (by omega) (by omega) a (by omega), fn t a (by omega)]; exact n1 t a c
  · have l : ((lnD 12 : Nat) : Int) = 6 := rfl
    have q := fn (8 + t) (by omega) (by omega)
    rw [show 14 * k + (8 + t) = 14 * k + 8 + t by omega, show 14 * k' + (8 + t) = 14 * k' + 8 + t by omega] at q
    rw [f12 _ _ (by omega) (by omega) a, ta 12 t (by omega) (by omega) a (by omega), q]; exact n2 t a c
section
variable {X : Xs} {d : Nat} {g : Mem}
theorem m_335_a (f t : Int) (f0 : 0 ≤ f) (f3 : f ≤ 3) (t0 : 0 ≤ t) (t3 : t ≤ 3) (hn : f ≠ t) : ∀ (k : Nat) (i : Int) (g : Mem), i + k = 472 → 0 ≤ i → ∃ g', EI X d 335 2 [some (.inr (.inr 143)), some (.inl f), some (.inl t), some (.inl i)] [] S0 (ov g) = EI X d 335 41 [some (.inr (.inr 143)), some (.inl f), some (.inl t), some (.inl 0)] [] S0 (ov g') ∧ (∀ j, i ≤ j → j < 472 → rd g' 144 (472 * t + j) = rd g 144 (472 * f + j)) ∧ (∀ c j, 0 ≤ c → 0 ≤ j → (c ≠ 144 ∨ j < 472 * t + i ∨ 472 * t + 472 ≤ j) → rd g' c j = rd g c j) := by
  intro k
  induction k with
  | zero =>
    intro i g hk i0
    refine ⟨g, ?_, fun j a b => by omega, fun _ _ _ _ _ => rfl⟩
    rw [e_335_2, if_neg (show ¬ i < 472 by omega)]
  | succ k ih =>
    intro i g hk i0
    obtain ⟨g2, e, q1, q2⟩ := ih (i + 1) (wr g 144 (472 * t + i) (rd g 144 (472 * f + i))) (by omega) (by omega)
    refine ⟨g2, ?_, fun j a b => ?_, fun c j a b h => ?_⟩
    · rw [e_335_2, if_pos (show i < 472 by omega)]
      simp (disch := omega) only [↓G_mod, w32_id, ↓al_144 _, ↓as_144]
      exact e
    · by_cases z : j = i
      · rw [q2 _ _ (by omega) (by omega) (by omega), z, rd_wr_eq]
      · rw [q1 j (by omega) b, rd_wr_ix _ _ (by omega) (by omega) (by omega)]
    · rw [q2 c j a b (by omega)]
      by_cases z : c = 144
      · subst z; exact rd_wr_ix _ _ (by omega) b (by omega)
      · exact rd_wr_ne _ _ _ _ (by omega) a z
theorem m_335_b (f t : Int) (f0 : 0 ≤ f) (f3 : f ≤ 3) (t0 : 0 ≤ t) (t3 : t ≤ 3) (hn : f ≠ t) : ∀ (k : Nat) (i : Int) (g : Mem), i + k = 14 → 0 ≤ i → Ok (fun _ g' => (∀ j, i ≤ j → j < 14 → rd g' 145 (14 * t + j) = rd g 145 (14 * f + j)) ∧ (∀ c j, 0 ≤ c → 0 ≤ j → (c ≠ 145 ∨ j < 14 * t + i ∨ 14 * t + 14 ≤ j) → rd g' c j = rd g c j)) (EI X d 335 41 [some (.inr (.inr 143)), some (.inl f), some (.inl t), some (.inl i)] [] S0 (ov g)) := by
  intro k
  induction k with
  | zero =>
    intro i g hk i0
    rw [e_335_41, if_neg (show ¬ i < 14 by omega)]
    exact Ok_some ⟨fun j a b => by omega, fun _ _ _ _ _ => rfl⟩
  | succ k ih =>
    intro i g hk i0
    rw [e_335_41, if_pos (show i < 14 by omega)]
    simp (disch := omega) only [↓G_mod, w32_id, ↓al_145, ↓as_145]
    refine Ok_mono (ih (i + 1) (wr g 145 (14 * t + i) (rd g 145 (14 * f + i))) (by omega) (by omega)) ?_
    rintro v g2 ⟨q1, q2⟩
    refine ⟨fun j a b => ?_, fun c j a b h => ?_⟩
    · by_cases z : j = i
      · rw [q2 _ _ (by omega) (by omega) (by omega), z, rd_wr_eq]
      · rw [q1 j (by omega) b, rd_wr_ix _ _ (by omega) (by omega) (by omega)]
    · rw [q2 c j a b (by omega)]
      by_cases z : c = 145
      · subst z; exact rd_wr_ix _ _ (by omega) b (by omega)
      · exact rd_wr_ne _ _ _ _ (by omega) a z
theorem m_335 (f t : Int) (f0 : 0 ≤ f) (f3 : f ≤ 3) (t0 : 0 ≤ t) (t3 : t ≤ 3) (hn : f ≠ t) : Ok (fun _ g' => (∀ j, 0 ≤ j → j < 472 → rd g' 144 (472 * t + j) = rd g 144 (472 * f + j)) ∧ (∀ j, 0 ≤ j → j < 14 → rd g' 145 (14 * t + j) = rd g 145 (14 * f + j)) ∧ (∀ c j, 0 ≤ c → 0 ≤ j → (c ≠ 144 ∨ j < 472 * t ∨ 472 * t + 472 ≤ j) → (c ≠ 145 ∨ j < 14 * t ∨ 14 * t + 14 ≤ j) → rd g' c j = rd g c j)) (MI X d 335 [.inr (.inr 143), .inl f, .inl t] S0 (ov g)) := by
  obtain ⟨g1, e, p1, p2⟩ := m_335_a (X := X) (d := d) f t f0 f3 t0 t3 hn 472 0 g (by omega) (by omega)
  rw [e_335, e]
  refine Ok_mono (m_335_b f t f0 f3 t0 t3 hn 14 0 g1 (by omega) (by omega)) ?_
  rintro v g2 ⟨q1, q2⟩
  refine ⟨fun j a b => ?_, fun j a b => ?_, fun c j a b h1 h2 => ?_⟩
  · rw [q2 _ _ (by omega) (by omega) (by omega)]; exact p1 j a b
  · rw [q1 j a b, p2 _ _ (by omega) (by omega) (by omega)]
  · rw [q2 c j a b (by omega)]; exact p2 c j a b (by omega)
end
