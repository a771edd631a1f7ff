/-! THE CALLS as pairs: status, top, bottom, fault, TRAYS, forge, faster, enough, lived, mark, undo -/
section
variable {X : Xs} {d : Nat} {N : Int} {g : Mem}
theorem p_status (iv : IV N g) : Pr (IV N) (MI X (d + 40) 128 [.inr (.inr 1)] S0 (ov g)) (fun g1 => MI X (d + 40) 197 [.inr (.inr 143)] S0 (ov g1)) := by
  have e := iv.2.2.2.1
  refine Pr_eq (v := rd g 1 15) (g1 := g) (g2 := g) ?_ ?_ e iv
  · rw [e_128]; simp only [↓G_top]
  · rw [e_197, e]; simp only [↓G_mod]
theorem p_top (iv : IV N g) : Pr (IV N) (MI X (d + 40) 129 [.inr (.inr 1)] S0 (ov g)) (fun g1 => MI X (d + 40) 198 [.inr (.inr 143)] S0 (ov g1)) := by
  have e := iv.2.2.2.2.2.1.1
  refine Pr_eq (v := rd g 1 18) (g1 := g) (g2 := g) ?_ ?_ iv.2.2.2.1 iv
  · rw [e_129]; simp only [↓G_top]
  · rw [e_198, e]; simp only [↓G_mod]
theorem p_bottom (iv : IV N g) : Pr (IV N) (MI X (d + 40) 130 [.inr (.inr 1)] S0 (ov g)) (fun g1 => MI X (d + 40) 199 [.inr (.inr 143)] S0 (ov g1)) := by
  have e := iv.2.2.2.2.2.1.2
  refine Pr_eq (v := rd g 1 19) (g1 := g) (g2 := g) ?_ ?_ iv.2.2.2.1 iv
  · rw [e_130]; simp only [↓G_top]
  · rw [e_199, e]; simp only [↓G_mod]
theorem p_fault (iv : IV N g) (w : Int) : Pr (IV N) (MI X (d + 40) 138 [.inr (.inr 1), .inl w] S0 (ov g)) (fun g1 => MI X (d + 40) 229 [.inr (.inr 143), .inl w] S0 (ov g1)) := by
  obtain ⟨e1, e2⟩ := iv.2.2.2.2.1
  refine Pr_eq (v := if w = 0 then rd g 1 16 else if w = 1 then rd g 1 17 else -1) (g1 := g) (g2 := g) ?_ ?_ iv.2.2.2.1 iv
  · rw [e_138]; simp only [↓G_top]
    (repeat' split) <;> rfl
  · rw [e_229, e1, e2]; simp only [↓G_mod]
    (repeat' split) <;> rfl
theorem q_tray (iv : IV N g) (t s m : Int) : Pr (IV N) (MI X (d + 40) 131 [.inr (.inr 1), .inl t, .inl s, .inl m] S0 (ov g)) (fun g1 => MI X (d + 40) 207 [.inr (.inr 143), .inl t, .inl s, .inl m] S0 (ov g1)) := Pr_mono2 (p_tray iv.2.1 t s m) (fun g' h hs => IV_FT iv h.1 h.2 hs)
theorem q_write (iv : IV N g) (t p v : Int) : Pr (IV N) (MI X (d + 40) 132 [.inr (.inr 1), .inl t, .inl p, .inr (.inl v)] S0 (ov g)) (fun g1 => MI X (d + 40) 209 [.inr (.inr 143), .inl t, .inl p, .inr (.inl v)] S0 (ov g1)) := Pr_mono2 (p_write iv.2.1 t p v) (fun g' h hs => IV_FT iv h.1 h.2 hs)
theorem q_read (iv : IV N g) (t p : Int) : Pr (IV N) (MI X (d + 40) 133 [.inr (.inr 1), .inl t, .inl p] S0 (ov g)) (fun g1 => MI X (d + 40) 210 [.inr (.inr 143), .inl t, .inl p] S0 (ov g1)) := Pr_mono2 (p_read iv.2.1 t p) (fun g' h hs => IV_FT iv h.1 h.2 hs)
theorem q_pour (iv : IV N g) (f p t a n : Int) (hp : p < 2147483648) (ha : a < 2147483648) : Pr (IV N) (MI X (d + 40) 134 [.inr (.inr 1), .inl f, .inl p, .inl t, .inl a, .inl n] S0 (ov g)) (fun g1 => MI X (d + 40) 211 [.inr (.inr 143), .inl f, .inl p, .inl t, .inl a, .inl n] S0 (ov g1)) := Pr_mono2 (p_pour iv.2.1 f p t a n hp ha) (fun g' h hs => IV_FT iv h.1 h.2 hs)
theorem q_copy (iv : IV N g) (t : Int) : Pr (IV N) (MI X (d + 40) 175 [.inr (.inr 1), .inl t] S0 (ov g)) (fun g1 => MI X (d + 40) 325 [.inr (.inr 143), .inl t] S0 (ov g1)) := by
  obtain ⟨s, hs⟩ := iv.1
  exact Pr_mono2 (p_copy iv.2.1 hs.1 (DS_RM hs) hs.2.2.1 t) (fun g' h hs => IV_FT iv h.1 h.2 hs)
theorem p_forge (iv : IV N g) (r w k : Int) : Pr (IV N) (MI X (d + 40) 153 [.inr (.inr 1), .inl r, .inl w, .inl k] S0 (ov g)) (fun g1 => MI X (d + 40) 289 [.inr (.inr 143), .inl r, .inl w, .inl k] S0 (ov g1)) := by
  obtain ⟨s, hs⟩ := iv.1
  have rm := DS_RM hs
  obtain ⟨h1, h2, h3, ⟨n1, n2⟩, h5⟩ := hs
  obtain ⟨i0, i8, i1', i6, -⟩ := id h3
  refine Ok_mono (c_153 (d := d + 39) h1 h3 r w k) ?_
  rintro v g1 ⟨a1, a2, a3, a4⟩
  have nc : ∀ c i, 0 ≤ c → 0 ≤ i → (c ≠ 30 ∨ i ≠ s 0) → rd (nmC g s r w k) c i = rd g c i := fun c i x y z => by
    unfold nmC
    split
    · by_cases h : c = 30
      · subst h; exact rd_wr_ix _ _ i0 y (by omega)
      · exact rd_wr_ne _ _ _ _ (by omega) x h
    · rfl
  have rm1 : RM g1 s := fun i a b => by rw [a4 _ _ (by omega) a (by unfold ScC; omega) (by omega) (by omega), nc _ _ (by omega) a (by omega)]; exact rm i a b
  refine Ok_mono (m_289 (d := d + 39) rm1 h3 r w k) ?_
  rintro w' g2 ⟨b1, b2, b3, b4⟩
  have nm : ∀ c i, 0 ≤ c → 0 ≤ i → (c ≠ 145 ∨ i ≠ s 0) → rd (nmM g1 s r w k) c i = rd g1 c i := fun c i x y z => by
    unfold nmM
    split
    · by_cases h : c = 145
      · subst h; exact rd_wr_ix _ _ i0 y (by omega)
      · exact rd_wr_ne _ _ _ _ (by omega) x h
    · rfl
  have e : rd g2 1 15 = rd g2 143 2 := by rw [b2, b4 _ _ (by omega) (by omega) (by unfold ScM; omega) (by omega) (by omega), nm _ _ (by omega) (by omega) (by omega), a2]
  have k' : ∀ c i, 0 ≤ i → (Oth c i ∨ (31 ≤ c ∧ c ≤ 39) ∨ (c = 30 ∧ i ≠ s 0) ∨ (4 ≤ c ∧ c ≤ 9) ∨ (146 ≤ c ∧ c ≤ 148) ∨ (c = 144 ∧ 104 ≤ i ∧ i < 1888) ∨ (c = 145 ∧ i < 56 ∧ i ≠ s 0)) → rd g2 c i = rd g c i := fun c i a h => (b4 c i (by unfold Oth at h; omega) a (by unfold ScM Oth at *; omega) (by unfold Oth at h; omega) (by unfold Oth at h; omega)).trans ((nm c i (by unfold Oth at h; omega) a (by unfold Oth at h; omega)).trans ((a4 c i (by unfold Oth at h; omega) a (by unfold ScC Oth at *; omega) (by unfold Oth at h; omega) (by unfold Oth at h; omega)).trans (nc c i (by unfold Oth at h; omega) a (by unfold Oth at h; omega))))
  have u01 : s 0 ≤ uForge s r w k 0 ∧ uForge s r w k 0 ≤ s 0 + 1 ∧ uForge s r w k 1 = s 1 ∧ uForge s r w k 11 = s 11 ∧ (¬ (fgR r w k ∧ ¬ s 0 = 8) → uForge s r w k 0 = s 0) := by
    unfold uForge
    split
    · next h =>
      obtain ⟨f0, -, -, -, -, fj⟩ := fg_all r w k i0
      exact ⟨by omega, by omega, fj 1 (by omega) (by omega), fj 11 (by omega) (by omega), fun z => absurd h z⟩
    · exact ⟨by omega, by omega, rfl, rfl, fun _ => rfl⟩
  obtain ⟨u0, u1, u2, u3, u4⟩ := u01
  refine ⟨a1.trans b1.symm, e, IV_of iv (Int.le_refl _) ⟨uForge s r w k, ?_, fun i x y => ?_, Iv_uForge h3 r w k, ⟨fun t x y => ?_, fun t x y => ?_⟩, YR_fr h5 u0 u2 u3 (k' _ _ (by omega) (by omega)) (k' _ _ (by omega) (by omega)) (fun c t x y z w => k' _ _ z (by omega)) (fun i x y => k' _ _ (by omega) (by omega))⟩ (TR_fr iv.2.1 (fun c i h a => k' c i a (by omega))) e (fun c i a h => k' c i a (Or.inl h))⟩
  · have g2f : ∀ c i, 19 ≤ c → c ≤ 29 → 0 ≤ i → rd g2 c i = rd g1 c i := fun c i x y z => (b4 c i (by omega) z (by unfold ScM; omega) (by omega) (by omega)).trans (nm c i (by omega) z (by omega))
    exact RD_fr a3 (fun c i x y => by
      by_cases z : 0 ≤ i
      · exact g2f c i (by omega) (by omega) z
      · have := g2f c 0 (by omega) (by omega) (by omega)
        rw [show rd g2 c i = rd g2 c 0 by unfold rd; rw [show i.toNat = (0 : Int).toNat by omega], show rd g1 c i = rd g1 c 0 by unfold rd; rw [show i.toNat = (0 : Int).toNat by omega]]
        exact this)
  · rw [show 472 * 0 + i = i by omega]; exact b3 i x y
  · by_cases z : t = s 0
    · have hok : fgR r w k ∧ ¬ s 0 = 8 := Decidable.byContradiction (fun q => by have := u4 q; omega)
      have c1 : rd g2 30 t = 0 := by
        rw [b4 _ _ (by omega) x (by unfold ScM; omega) (by omega) (by omega), nm _ _ (by omega) x (by omega), a4 _ _ (by omega) x (by unfold ScC; omega) (by omega) (by omega)]
        unfold nmC
        rw [if_pos hok, z, rd_wr_eq]
      have c2 : rd g2 145 t = 0 := by
        rw [b4 _ _ (by omega) x (by unfold ScM; omega) (by omega) (by omega)]
        unfold nmM
        rw [if_pos hok, z, rd_wr_eq]
      rw [show 14 * 0 + t = t by omega, c2]
      exact c1
    · rw [show (19 : Int) + 11 = 30 from rfl, k' 30 _ x (by omega), k' 145 _ (by omega) (by omega)]
      exact n1 t x (by omega)
  · rw [u2] at y
    have e8 : rd g2 145 (14 * 0 + 8 + t) = rd g 145 (14 * 0 + 8 + t) := by
      have nm8 : rd (nmM g1 s r w k) 145 (14 * 0 + 8 + t) = rd g1 145 (14 * 0 + 8 + t) := by
        unfold nmM
        split
        · exact rd_wr_ix _ _ i0 (by omega) (by omega)
        · rfl
      exact (b4 _ _ (by omega) (by omega) (by unfold ScM; omega) (by omega) (by omega)).trans (nm8.trans ((a4 _ _ (by omega) (by omega) (by unfold ScC; omega) (by omega) (by omega)).trans (nc _ _ (by omega) (by omega) (by omega))))
    rw [k' _ _ x (by omega), e8]; exact n2 t x y
/-- a fraction is told, nothing else -/
theorem IV_frac {g' : Mem} (iv : IV N g) (f : ∀ c i, 0 ≤ c → 0 ≤ i → ¬ ScC c → ¬ ScM c i → (c ≠ 1 ∨ (i ≠ 15 ∧ i ≠ 18 ∧ i ≠ 19)) → (c ≠ 143 ∨ (i ≠ 2 ∧ i ≠ 3 ∧ i ≠ 4)) → rd g' c i = rd g c i) (hs : rd g' 1 15 = rd g' 143 2) (h2 : FR2 g') : IV N g' := by
  obtain ⟨⟨s, v1⟩, v2, v3, -, v5, v6, v7, v8, v9⟩ := iv
  have k : ∀ c i, 0 ≤ i → ((c = 1 ∧ (i = 13 ∨ i = 14 ∨ i = 16 ∨ i = 17)) ∨ c = 10 ∨ c = 15 ∨ (62 ≤ c ∧ c ≤ 124) ∨ c = 141 ∨ (c = 143 ∧ (i = 10 ∨ i = 16 ∨ i = 17 ∨ i = 38 ∨ i = 39)) ∨ (c = 144 ∧ i < 1888) ∨ (c = 145 ∧ i < 56) ∨ c = 149 ∨ c = 162 ∨ (19 ≤ c ∧ c ≤ 39) ∨ (4 ≤ c ∧ c ≤ 9) ∨ (146 ≤ c ∧ c ≤ 148)) → rd g' c i = rd g c i := fun c i a h => f c i (by omega) a (by unfold ScC; omega) (by unfold ScM; omega) (by omega) (by omega)
  exact ⟨⟨s, DS_fr v1 (fun c i x y z => k c i z (by omega)) (fun i x y => k _ _ (by omega) (by omega)) (fun i x y => k _ _ (by omega) (by omega))⟩, TR_fr v2 (fun c i h a => k c i a (by omega)), TP_fr v3 (fun c i a b => k c i a (by omega)), hs, FA_fr v5 (fun c i b => k c i (by omega) (by omega)), h2, MK_fr v7 (Int.le_refl _) (fun c i a b => k c i a (by omega)), LV_fr v8 (fun c i a b => k c i a (by omega)), RW_fr v9 (fun i a => k 15 i a (by omega))⟩
theorem frG_rd (h : Mem) {c i j t b : Int} (i0 : 0 ≤ i) (j0 : 0 ≤ j) (hij : j ≠ i) (c0 : 0 ≤ c) : rd (frG h c i j t b) c i = t / gcG t b ∧ rd (frG h c i j t b) c j = b / gcG t b ∧ ∀ a k, 0 ≤ a → 0 ≤ k → (a ≠ c ∨ (k ≠ i ∧ k ≠ j)) → rd (frG h c i j t b) a k = rd h a k := by
  unfold frG
  refine ⟨?_, rd_wr_eq _ _ _ _, fun a k a0 k0 z => ?_⟩
  · rw [rd_wr_ix _ _ j0 i0 (by omega), rd_wr_eq]
  · by_cases y : a = c
    · subst y
      rw [rd_wr_ix _ _ j0 k0 (by omega), rd_wr_ix _ _ i0 k0 (by omega)]
    · rw [rd_wr_ne _ _ _ _ c0 a0 y, rd_wr_ne _ _ _ _ c0 a0 y]
/-- a fraction of both -/
theorem Pr_frac {q : Int × Int} {p : Prop} [Decidable p] {t b : Int} {oc : Option Rs} {om : Mem → Option Rs} (iv : IV N g) (hC : AnC (if p then frG g 1 18 19 t b else g) q oc) (hM : ∀ g1, (∀ i, 0 ≤ i → rd g1 144 i = rd g 144 i) → AnM (if p then frG g1 143 3 4 t b else g1) q (om g1)) : Pr (IV N) oc om := by
  refine Ok_mono hC ?_
  rintro v g1 ⟨a1, a2, a3⟩
  obtain ⟨x1, x2, x3⟩ := frG_rd g (c := 1) (i := 18) (j := 19) (t := t) (b := b) (by omega) (by omega) (by omega) (by omega)
  have c3 : ∀ c i, 0 ≤ c → 0 ≤ i → ¬ ScC c → (c ≠ 1 ∨ (i ≠ 15 ∧ i ≠ 18 ∧ i ≠ 19)) → rd g1 c i = rd g c i := fun c i x y z w => by
    rw [a3 c i x y z (by omega)]
    split
    · exact x3 c i x y (by omega)
    · rfl
  refine Ok_mono (hM g1 (fun i a => c3 _ _ (by omega) a (by unfold ScC; omega) (by omega))) ?_
  rintro w g2 ⟨b1, b2, b3⟩
  obtain ⟨y1, y2, y3⟩ := frG_rd g1 (c := 143) (i := 3) (j := 4) (t := t) (b := b) (by omega) (by omega) (by omega) (by omega)
  have d3 : ∀ c i, 0 ≤ c → 0 ≤ i → ¬ ScM c i → (c ≠ 143 ∨ (i ≠ 2 ∧ i ≠ 3 ∧ i ≠ 4)) → rd g2 c i = rd g1 c i := fun c i x y z w => by
    rw [b3 c i x y z (by omega)]
    split
    · exact y3 c i x y (by omega)
    · rfl
  have e : rd g2 1 15 = rd g2 143 2 := by rw [b2, d3 _ _ (by omega) (by omega) (by unfold ScM; omega) (by omega), a2]
  refine ⟨a1.trans b1.symm, e, IV_frac iv (fun c i x y z w u r => (d3 c i x y w r).trans (c3 c i x y z u)) e ?_⟩
  unfold FR2
  rw [d3 1 18 (by omega) (by omega) (by unfold ScM; omega) (by omega), d3 1 19 (by omega) (by omega) (by unfold ScM; omega) (by omega), a3 1 18 (by omega) (by omega) (by unfold ScC; omega) (by omega), a3 1 19 (by omega) (by omega) (by unfold ScC; omega) (by omega), b3 143 3 (by omega) (by omega) (by unfold ScM; omega) (by omega), b3 143 4 (by omega) (by omega) (by unfold ScM; omega) (by omega)]
  by_cases h : p
  · rw [if_pos h, if_pos h, x1, x2, y1, y2]; exact ⟨rfl, rfl⟩
  · rw [if_neg h, if_neg h]
    have f2 := iv.2.2.2.2.2.1
    unfold FR2 at f2
    rw [c3 143 3 (by omega) (by omega) (by unfold ScC; omega) (by omega), c3 143 4 (by omega) (by omega) (by unfold ScC; omega) (by omega)]
    exact f2
theorem p_faster (iv : IV N g) (m o v : Int) (hv : v < 2147483648) : Pr (IV N) (MI X (d + 40) 167 [.inr (.inr 1), .inl m, .inl o, .inl v] S0 (ov g)) (fun g1 => MI X (d + 40) 313 [.inr (.inr 143), .inl m, .inl o, .inl v] S0 (ov g1)) := by
  obtain ⟨s, hs⟩ := iv.1
  exact Pr_frac iv (c_167 hs.1 hs.2.2.1 m o v hv) (fun g1 f => m_313 (fun i a b => (f i a).trans (DS_RM hs i a b)) hs.2.2.1 m o v)
theorem p_enough (iv : IV N g) (m o n : Int) : Pr (IV N) (MI X (d + 40) 168 [.inr (.inr 1), .inl m, .inl o, .inl n] S0 (ov g)) (fun g1 => MI X (d + 40) 314 [.inr (.inr 143), .inl m, .inl o, .inl n] S0 (ov g1)) := by
  obtain ⟨s, hs⟩ := iv.1
  exact Pr_frac iv (c_168 hs.1 hs.2.2.1 m o n) (fun g1 f => m_314 (fun i a b => (f i a).trans (DS_RM hs i a b)) hs.2.2.1 m o n)
theorem p_lived (iv : IV N g) (w : Int) : Pr (IV N) (MI X (d + 40) 177 [.inr (.inr 1), .inl w] S0 (ov g)) (fun g1 => MI X (d + 40) 333 [.inr (.inr 143), .inl w] S0 (ov g1)) := by
  obtain ⟨l1, l2, l3⟩ := iv.2.2.2.2.2.2.2.1
  have hl : isL 141 := Or.inl rfl
  refine Pr_ask (q := if w < 0 ∨ 4 < w then (-1, 1) else if rd g 141 2 = 0 then (-1, 6) else (rd g 162 w, 0)) iv (Int.le_refl _) ?_ (fun g1 f => ?_)
  · rw [e_177]
    by_cases h1 : w < 0
    · rw [if_pos h1, if_pos (Or.inl h1), K_top]
      exact AnC_no (FC_rf g) 1
    by_cases h2 : 4 < w
    · rw [if_neg h1, if_pos h2, if_pos (Or.inr h2), K_top]
      exact AnC_no (FC_rf g) 1
    rw [if_neg h1, if_neg h2, if_neg (by omega)]
    simp only [↓G_top, ↓G_liv hl, ↓K_top]
    rcases l2 with l2 | l2
    · rw [if_pos l2, if_pos l2]
      exact AnC_no (FC_rf g) 6
    obtain ⟨q, q8, q9⟩ := l3 l2
    rw [if_neg (show ¬ rd g 141 2 = 0 by omega), if_neg (show ¬ rd g 141 2 = 0 by omega)]
    have hw : w = 0 ∨ w = 1 ∨ w = 2 ∨ w = 3 ∨ w = 4 := by omega
    rcases hw with rfl | rfl | rfl | rfl | rfl
    · rw [if_pos rfl, ← q 0 (by omega) (by omega)]
      exact AnC_tell (FC_rf g) _
    · rw [if_neg (by decide), if_pos rfl, ← q 1 (by omega) (by omega)]
      exact AnC_tell (FC_rf g) _
    · rw [if_neg (by decide), if_neg (by decide), if_pos rfl, ← q 2 (by omega) (by omega)]
      exact AnC_tell (FC_rf g) _
    · rw [if_neg (by decide), if_neg (by decide), if_neg (by decide), if_pos rfl, ← q 3 (by omega) (by omega)]
      exact AnC_tell (FC_rf g) _
    · rw [if_neg (by decide), if_neg (by decide), if_neg (by decide), if_neg (by decide), ← q 4 (by omega) (by omega), show (141 : Int) = 141 from rfl, show (4 : Int) + 4 = 8 from rfl]
      by_cases z : rd g 141 8 = 0
      · rw [if_pos z, z]
        exact AnC_tell (FC_rf g) _
      · rw [if_neg z, show rd g 141 8 = 1 by omega]
        exact AnC_tell (FC_rf g) _
  · have e38 : rd g1 143 38 = rd g 141 2 := by rw [f _ _ (by omega) (by omega) (by unfold ScC; omega) (by omega)]; exact l1.symm
    rw [e_333]
    by_cases h1 : w < 0
    · rw [if_pos h1, if_pos (Or.inl h1), K_mod]
      exact AnM_no (FN_rf g1) 1
    by_cases h2 : 4 < w
    · rw [if_neg h1, if_pos h2, if_pos (Or.inr h2), K_mod]
      exact AnM_no (FN_rf g1) 1
    rw [if_neg h1, if_neg h2, if_neg (by omega)]
    simp (disch := omega) only [↓G_mod, ↓K_mod, e38, ↓al_162 _]
    by_cases z : rd g 141 2 = 0
    · rw [if_pos z, if_pos z]
      exact AnM_no (FN_rf g1) 6
    · rw [if_neg z, if_neg z, f 162 w (by omega) (by omega) (by unfold ScC; omega) (by omega)]
      exact AnM_tell (FN_rf g1) _
end
