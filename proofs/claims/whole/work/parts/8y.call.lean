/-! THE CALLS of both as pairs (written by wip/tools/gen8y.py) -/
theorem Pr_mono2 {I J : Mem → Prop} {oc : Option Rs} {om : Mem → Option Rs} (h : Pr I oc om) (f : ∀ g, I g → rd g 1 15 = rd g 143 2 → J g) : Pr J oc om := Ok_mono h (fun _ _ k => Ok_mono k (fun _ _ q => ⟨q.1, q.2.1, f _ q.2.2 q.2.1⟩))
section
variable {X : Xs} {d : Nat} {N : Int} {g : Mem}
theorem IV_FT {g' : Mem} (iv : IV N g) (t : TR g') (f : FT g g') (hs : rd g' 1 15 = rd g' 143 2) : IV N g' := by
  obtain ⟨s, h⟩ := iv.1
  have k : ∀ c i, 0 ≤ i → (Oth c i ∨ (19 ≤ c ∧ c ≤ 39) ∨ (c = 144 ∧ i < 1888) ∨ (c = 145 ∧ i < 56)) → rd g' c i = rd g c i := fun c i a h => f c i (by unfold Oth at h; omega) a (by unfold Oth at h; omega) (by unfold Oth at h; omega) (by unfold Oth at h; omega) (by unfold Oth at h; omega)
  exact IV_of iv (Int.le_refl _) ⟨s, DS_fr h (fun c i x y z => k c i z (by omega)) (fun i x y => k _ _ (by omega) (by omega)) (fun i x y => k _ _ (by omega) (by omega))⟩ t hs (fun c i a h => k c i a (Or.inl h))
theorem p_thing (iv : IV N g) (hN : N < 800000) (t w : Int) : Pr (IV N) (MI X (d + 40) 140 [.inr (.inr 1), .inl t, .inl w] S0 (ov g)) (fun g1 => MI X (d + 40) 263 [.inr (.inr 143), .inl t, .inl w] S0 (ov g1)) := Pr_asks (q := fun s => qThing s t w) iv (Int.le_refl _) (fun s r hi => c_140 r hi t w) (fun g1 s r hi => m_263 r hi t w)
theorem p_holder (iv : IV N g) (hN : N < 800000) (t : Int) : Pr (IV N) (MI X (d + 40) 141 [.inr (.inr 1), .inl t] S0 (ov g)) (fun g1 => MI X (d + 40) 264 [.inr (.inr 143), .inl t] S0 (ov g1)) := Pr_asks (q := fun s => qHolder s t) iv (Int.le_refl _) (fun s r hi => c_141 r hi t) (fun g1 s r hi => m_264 r hi t)
theorem p_man (iv : IV N g) (hN : N < 800000) (m w : Int) : Pr (IV N) (MI X (d + 40) 142 [.inr (.inr 1), .inl m, .inl w] S0 (ov g)) (fun g1 => MI X (d + 40) 265 [.inr (.inr 143), .inl m, .inl w] S0 (ov g1)) := Pr_asks (q := fun s => qMan s m w) iv (Int.le_refl _) (fun s r hi => c_142 r hi (by omega) m w) (fun g1 s r hi => m_265 r hi (by omega) m w)
theorem p_holds (iv : IV N g) (hN : N < 800000) (m : Int) : Pr (IV N) (MI X (d + 40) 143 [.inr (.inr 1), .inl m] S0 (ov g)) (fun g1 => MI X (d + 40) 266 [.inr (.inr 143), .inl m] S0 (ov g1)) := Pr_asks (q := fun s => qHolds s m) iv (Int.le_refl _) (fun s r hi => c_143 r hi m) (fun g1 s r hi => m_266 r hi m)
theorem p_won (iv : IV N g) (hN : N < 800000) (m o : Int) : Pr (IV N) (MI X (d + 40) 144 [.inr (.inr 1), .inl m, .inl o] S0 (ov g)) (fun g1 => MI X (d + 40) 267 [.inr (.inr 143), .inl m, .inl o] S0 (ov g1)) := Pr_asks (q := fun s => qWon s m o) iv (Int.le_refl _) (fun s r hi => c_144 r hi m o) (fun g1 s r hi => m_267 r hi m o)
theorem p_duel (iv : IV N g) (hN : N < 800000) (w : Int) : Pr (IV N) (MI X (d + 40) 145 [.inr (.inr 1), .inl w] S0 (ov g)) (fun g1 => MI X (d + 40) 272 [.inr (.inr 143), .inl w] S0 (ov g1)) := Pr_asks (q := fun s => qDuel s w) iv (Int.le_refl _) (fun s r hi => c_145 r hi w) (fun g1 s r hi => m_272 r hi w)
theorem p_acts (iv : IV N g) (hN : N < 800000) : Pr (IV N) (MI X (d + 40) 155 [.inr (.inr 1)] S0 (ov g)) (fun g1 => MI X (d + 40) 282 [.inr (.inr 143)] S0 (ov g1)) := Pr_asks (q := fun s => qActs s) iv (Int.le_refl _) (fun s r hi => c_155 r hi (by omega)) (fun g1 s r hi => m_282 r hi)
theorem p_wound (iv : IV N g) (hN : N < 800000) : Pr (IV N) (MI X (d + 40) 156 [.inr (.inr 1)] S0 (ov g)) (fun g1 => MI X (d + 40) 283 [.inr (.inr 143)] S0 (ov g1)) := Pr_asks (q := fun s => qWound s) iv (Int.le_refl _) (fun s r hi => c_156 r hi (by omega)) (fun g1 s r hi => m_283 r hi (by omega))
theorem p_value (iv : IV N g) (hN : N < 800000) (n : Int) : Pr (IV N) (MI X (d + 40) 157 [.inr (.inr 1), .inl n] S0 (ov g)) (fun g1 => MI X (d + 40) 296 [.inr (.inr 143), .inl n] S0 (ov g1)) := Pr_asks (q := fun s => qValue s n) iv (Int.le_refl _) (fun s r hi => c_157 r hi (by omega) n) (fun g1 s r hi => m_296 r hi (by omega) n)
theorem p_move (iv : IV N g) (hN : N < 800000) (n : Int) : Pr (IV N) (MI X (d + 40) 158 [.inr (.inr 1), .inl n] S0 (ov g)) (fun g1 => MI X (d + 40) 297 [.inr (.inr 143), .inl n] S0 (ov g1)) := Pr_asks (q := fun s => qMove s n) iv (Int.le_refl _) (fun s r hi => c_158 r hi (by omega) n) (fun g1 s r hi => m_297 r hi (by omega) n)
theorem p_forced (iv : IV N g) (hN : N < 800000) : Pr (IV N) (MI X (d + 40) 159 [.inr (.inr 1)] S0 (ov g)) (fun g1 => MI X (d + 40) 298 [.inr (.inr 143)] S0 (ov g1)) := Pr_asks (q := fun s => qForced s) iv (Int.le_refl _) (fun s r hi => c_159 r hi (by omega)) (fun g1 s r hi => m_298 r hi (by omega))
theorem p_reached (iv : IV N g) (hN : N < 800000) : Pr (IV N) (MI X (d + 40) 160 [.inr (.inr 1)] S0 (ov g)) (fun g1 => MI X (d + 40) 299 [.inr (.inr 143)] S0 (ov g1)) := Pr_asks (q := fun s => qReached s) iv (Int.le_refl _) (fun s r hi => c_160 r hi (by omega)) (fun g1 s r hi => m_299 r hi (by omega))
theorem p_needs (iv : IV N g) (hN : N < 800000) (m o : Int) : Pr (IV N) (MI X (d + 40) 161 [.inr (.inr 1), .inl m, .inl o] S0 (ov g)) (fun g1 => MI X (d + 40) 303 [.inr (.inr 143), .inl m, .inl o] S0 (ov g1)) := Pr_asks (q := fun s => qNeeds s m o) iv (Int.le_refl _) (fun s r hi => c_161 r hi m o) (fun g1 s r hi => m_303 r hi m o)
theorem p_needsW (iv : IV N g) (hN : N < 800000) (m o t : Int) : Pr (IV N) (MI X (d + 40) 162 [.inr (.inr 1), .inl m, .inl o, .inl t] S0 (ov g)) (fun g1 => MI X (d + 40) 304 [.inr (.inr 143), .inl m, .inl o, .inl t] S0 (ov g1)) := Pr_asks (q := fun s => qNeedsW s m o t) iv (Int.le_refl _) (fun s r hi => c_162 r hi m o t) (fun g1 s r hi => m_304 r hi m o t)
theorem p_gift (iv : IV N g) (hN : N < 800000) (m o : Int) : Pr (IV N) (MI X (d + 40) 163 [.inr (.inr 1), .inl m, .inl o] S0 (ov g)) (fun g1 => MI X (d + 40) 305 [.inr (.inr 143), .inl m, .inl o] S0 (ov g1)) := Pr_asks (q := fun s => qGift s m o) iv (Int.le_refl _) (fun s r hi => c_163 r hi m o) (fun g1 s r hi => m_305 r hi m o)
theorem p_fair (iv : IV N g) (hN : N < 800000) (m o w : Int) : Pr (IV N) (MI X (d + 40) 164 [.inr (.inr 1), .inl m, .inl o, .inl w] S0 (ov g)) (fun g1 => MI X (d + 40) 307 [.inr (.inr 143), .inl m, .inl o, .inl w] S0 (ov g1)) := Pr_asks (q := fun s => qFair s m o w) iv (Int.le_refl _) (fun s r hi => c_164 r hi m o w) (fun g1 s r hi => m_307 r hi m o w)
theorem p_champ (iv : IV N g) (hN : N < 800000) (o : Int) : Pr (IV N) (MI X (d + 40) 169 [.inr (.inr 1), .inl o] S0 (ov g)) (fun g1 => MI X (d + 40) 315 [.inr (.inr 143), .inl o] S0 (ov g1)) := Pr_asks (q := fun s => qChamp s o) iv (Int.le_refl _) (fun s r hi => c_169 r hi o) (fun g1 s r hi => m_315 r hi o)
theorem p_least (iv : IV N g) (hN : N < 800000) : Pr (IV N) (MI X (d + 40) 173 [.inr (.inr 1)] S0 (ov g)) (fun g1 => MI X (d + 40) 323 [.inr (.inr 143)] S0 (ov g1)) := Pr_asks (q := fun s => qLeast s) iv (Int.le_refl _) (fun s r hi => c_173 r hi (by omega)) (fun g1 s r hi => m_323 r hi (by omega))
theorem p_leastAt (iv : IV N g) (hN : N < 800000) (w : Int) : Pr (IV N) (MI X (d + 40) 174 [.inr (.inr 1), .inl w] S0 (ov g)) (fun g1 => MI X (d + 40) 324 [.inr (.inr 143), .inl w] S0 (ov g1)) := Pr_asks (q := fun s => qLeastAt s w) iv (Int.le_refl _) (fun s r hi => c_174 r hi (by omega) w) (fun g1 s r hi => m_324 r hi (by omega) w)
theorem p_arms (iv : IV N g) (V o : Int) (hv : V < 2147483648) : Pr (IV N) (MI X (d + 40) 165 [.inr (.inr 1), .inl V, .inl o] S0 (ov g)) (fun g1 => MI X (d + 40) 311 [.inr (.inr 143), .inl V, .inl o] S0 (ov g1)) := Pr_asks (q := fun s => qArms s V o) iv (Int.le_refl _) (fun s r hi => c_165 r hi hv) (fun g1 s r hi => m_311 r hi V o)
theorem p_armOf (iv : IV N g) (V o w : Int) (hv : V < 2147483648) : Pr (IV N) (MI X (d + 40) 166 [.inr (.inr 1), .inl V, .inl o, .inl w] S0 (ov g)) (fun g1 => MI X (d + 40) 312 [.inr (.inr 143), .inl V, .inl o, .inl w] S0 (ov g1)) := Pr_asks (q := fun s => qArmOf s V o w) iv (Int.le_refl _) (fun s r hi => c_166 r hi hv) (fun g1 s r hi => m_312 r hi V o w)
theorem p_told (iv : IV N g) (hN : N < 800000) (w : Int) : Pr (IV N) (MI X (d + 40) 139 [.inr (.inr 1), .inl w] S0 (ov g)) (fun g1 => MI X (d + 40) 262 [.inr (.inr 143), .inl w] S0 (ov g1)) := Pr_asks (q := fun s => qTold s w) iv (Int.le_refl _) (fun s r hi => AnC_eq (c_139 r hi (by omega) w)) (fun g1 s r hi => AnM_eq (m_262 r hi (by omega) w))
theorem TR_FC {g1 : Mem} (r : TR g) (f : FC g g1) : TR g1 := TR_fr r (fun c i h a => f c i (by omega) a (by unfold ScC; omega) (by omega))
theorem trN_FC {g1 : Mem} (f : FC g g1) (t n : Int) : trN g1 t n = trN g t n := by
  unfold trN
  by_cases h : 0 ≤ t ∧ t < 4
  · rw [f 8 t (by omega) h.1 (by unfold ScC; omega) (by omega), f 9 t (by omega) h.1 (by unfold ScC; omega) (by omega)]
  · rw [if_pos h, if_pos h]
theorem row_FC {g1 : Mem} (f : FC g g1) {t : Int} (t0 : 0 ≤ t) (t4 : t < 4) (i : Int) (i0 : 0 ≤ i) : rd g1 (4 + t) i = rd g (4 + t) i := f _ _ (by omega) i0 (by unfold ScC; omega) (by omega)
theorem qHurts_FC {g1 : Mem} {s : Int → Int} (f : FC g g1) (h6 : s 1 ≤ 6) (t : Int) : qHurts g1 s t = qHurts g s t := by
  unfold qHurts
  rw [trN_FC f]
  by_cases h : trN g t (s 1) ≠ 0
  · rw [if_pos h, if_pos h]
  · rw [if_neg h, if_neg h]
    have hx := trN_c (g := g) (t := t) (n := s 1) rfl
    have ht : 0 ≤ t ∧ t < 4 := by omega
    have e1 : vaT s (fun i => rd g1 (4 + t) i) (s 1).toNat 0 0 = vaT s (fun i => rd g (4 + t) i) (s 1).toNat 0 0 := vaT_c _ _ _ (fun j a b => row_FC f ht.1 ht.2 j a)
    have hp : ∀ (k : Nat) (i : Int), 0 ≤ i → hrP s (fun i => rd g1 (4 + t) i) k i = hrP s (fun i => rd g (4 + t) i) k i := by
      intro k
      induction k with
      | zero => intro i i0; rfl
      | succ k ih =>
        intro i i0
        show su (fun j => mn s (rd g1 (4 + t) i) (4 + rd g1 (4 + t) j)) k (i + 1) + hrP s (fun i => rd g1 (4 + t) i) k (i + 1) = su (fun j => mn s (rd g (4 + t) i) (4 + rd g (4 + t) j)) k (i + 1) + hrP s (fun i => rd g (4 + t) i) k (i + 1)
        rw [ih (i + 1) (by omega)]
        congr 1
        refine su_congr _ _ _ _ (fun j a b => ?_)
        rw [row_FC f ht.1 ht.2 i i0, row_FC f ht.1 ht.2 j (by omega)]
    rw [e1, hp _ 0 (by omega)]
theorem rpW_FC {g1 : Mem} {s : Int → Int} (f : FC g g1) (m o t n : Int) : rpW g1 s m o t n = rpW g s m o t n := by
  unfold rpW
  rw [trN_FC f]
  have hx := trN_c (g := g) (t := t) (n := n) rfl
  by_cases h : trN g t n ≠ 0
  · rw [if_pos h, if_pos h]
  · rw [if_neg h, if_neg h]
    have ht : 0 ≤ t ∧ t < 4 := by omega
    rw [alW_c (w := fun i => rd g1 (4 + t) i) (w2 := fun i => rd g (4 + t) i) _ _ (fun j a b => row_FC f ht.1 ht.2 j a)]
theorem rpF_c {w w2 : Int → Int} : ∀ (k : Nat) (i : Int) (B : Int → Int) (x y : Int), (∀ j, i ≤ j → j < i + k → w j = w2 j) → rpF w k i B x y = rpF w2 k i B x y
  | 0, _, _, _, _, _ => rfl
  | k + 1, i, B, x, y, h => by
    rw [rpF_s, rpF_s, h i (by omega) (by omega)]
    split
    · rfl
    · exact rpF_c k (i + 1) _ _ _ (fun j a b => h j (by omega) (by omega))
theorem rpR_FC {g1 : Mem} {s : Int → Int} (f : FC g g1) (m o t n : Int) (t0 : 0 ≤ t) (t4 : t < 4) : rpR g1 s m o t n = rpR g s m o t n := rpF_c _ _ _ _ _ (fun j a b => row_FC f t0 t4 j a)
theorem rpW_t {s : Int → Int} {m o t n : Int} (h : rpW g s m o t n = 0) : 0 ≤ t ∧ t < 4 := by
  unfold rpW at h
  have hx := trN_c (g := g) (t := t) (n := n) rfl
  (repeat' split at h) <;> omega
theorem qHeld_FC {g1 : Mem} {s : Int → Int} (f : FC g g1) (m o t n w : Int) : qHeldB g1 s m o t n w = qHeldB g s m o t n w := by
  unfold qHeldB
  rw [rpW_FC f]
  by_cases h : rpW g s m o t n = 0
  · obtain ⟨t0, t4⟩ := rpW_t h
    rw [rpR_FC f m o t n t0 t4]
  · rw [if_neg h, if_neg h]
theorem qFall_FC {g1 : Mem} {s : Int → Int} (f : FC g g1) (m o t n : Int) : qFallen g1 s m o t n = qFallen g s m o t n := by
  unfold qFallen
  rw [rpW_FC f]
  by_cases h : rpW g s m o t n = 0
  · obtain ⟨t0, t4⟩ := rpW_t h
    rw [rpR_FC f m o t n t0 t4]
  · rw [if_neg h, if_neg h]
theorem p_hurts (iv : IV N g) (hN : N < 800000) (t : Int) : Pr (IV N) (MI X (d + 40) 172 [.inr (.inr 1), .inl t] S0 (ov g)) (fun g1 => MI X (d + 40) 320 [.inr (.inr 143), .inl t] S0 (ov g1)) := by
  obtain ⟨s, hs⟩ := iv.1
  have i6 := hs.2.2.1.2.2.2.1
  exact Pr_ask iv (Int.le_refl _) (c_172 iv.2.1 hs.1 hs.2.2.1 t) (fun g1 f => by
    have := m_320 (X := X) (d := d + 37) (TR_FC iv.2.1 f) (RM_FC (DS_RM hs) f) hs.2.2.1 (by omega) t
    rw [qHurts_FC f i6] at this
    exact this)
theorem p_heldBack (iv : IV N g) (hN : N < 800000) (m o t n w : Int) : Pr (IV N) (MI X (d + 40) 170 [.inr (.inr 1), .inl m, .inl o, .inl t, .inl n, .inl w] S0 (ov g)) (fun g1 => MI X (d + 40) 318 [.inr (.inr 143), .inl m, .inl o, .inl t, .inl n, .inl w] S0 (ov g1)) := by
  obtain ⟨s, hs⟩ := iv.1
  exact Pr_ask iv (Int.le_refl _) (c_170 iv.2.1 hs.1 hs.2.2.1 hN m o t n w) (fun g1 f => by
    have := m_318 (X := X) (d := d + 31) (TR_FC iv.2.1 f) (RM_FC (DS_RM hs) f) hs.2.2.1 hN m o t n w
    rw [qHeld_FC f] at this
    exact this)
theorem p_fallen (iv : IV N g) (hN : N < 800000) (m o t n : Int) : Pr (IV N) (MI X (d + 40) 171 [.inr (.inr 1), .inl m, .inl o, .inl t, .inl n] S0 (ov g)) (fun g1 => MI X (d + 40) 319 [.inr (.inr 143), .inl m, .inl o, .inl t, .inl n] S0 (ov g1)) := by
  obtain ⟨s, hs⟩ := iv.1
  exact Pr_ask iv (Int.le_refl _) (c_171 iv.2.1 hs.1 hs.2.2.1 hN m o t n) (fun g1 f => by
    have nb : rpW g1 s m o t n = 0 → ¬ ((rpR g1 s m o t n).2.1 0 = 0 ∧ (rpR g1 s m o t n).2.1 1 = 0) := fun h0 => rpR_nb hs.2.2.1 hN m o t n h0
    have := m_319 (X := X) (d := d + 31) (TR_FC iv.2.1 f) (RM_FC (DS_RM hs) f) hs.2.2.1 hN m o t n nb
    rw [qFall_FC f] at this
    exact this)
theorem us_k (s : Int → Int) (x : Int) {k : Int} (h : k ≠ 0 ∧ k ≠ 1 ∧ k ≠ 11) : us s k x 0 = s 0 ∧ us s k x 1 = s 1 ∧ us s k x 11 = s 11 := ⟨us_ne _ _ (by omega), us_ne _ _ (by omega), us_ne _ _ (by omega)⟩
theorem uMeet_k (s : Int → Int) (m o : Int) : uMeet s m o 0 = s 0 ∧ uMeet s m o 1 = s 1 ∧ uMeet s m o 11 = s 11 := by
  unfold uMeet
  have f := (me_all s m o).2.2.2.2.2
  split
  · exact ⟨f 0 (by omega), f 1 (by omega), f 11 (by omega)⟩
  · exact ⟨rfl, rfl, rfl⟩
theorem uAct_k {s : Int → Int} (hi : Iv N s) (hN : N < 800000) (a : Int) : uAct s a 0 = s 0 ∧ uAct s a 1 = s 1 ∧ uAct s a 11 = s 11 := by
  unfold uAct
  split
  · next h =>
    have l := la_k hi (by omega) a (by omega)
    unfold laS at l
    rw [if_pos (show laP s a from ⟨h.2.1, h.2.2⟩)] at l
    exact ⟨l.1, l.2, ac_11 hi h.2.1 a (by omega)⟩
  · exact ⟨rfl, rfl, rfl⟩
theorem uPart_k (s : Int → Int) : uPart s 0 = s 0 ∧ uPart s 1 = s 1 ∧ uPart s 11 = s 11 := by
  unfold uPart
  split
  · exact ⟨rfl, rfl, rfl⟩
  · unfold paS; simp (disch := omega) only [us_ne, and_self]
theorem uGive_k {s : Int → Int} (m t : Int) : uGive s m t 0 = s 0 ∧ uGive s m t 1 = s 1 ∧ uGive s m t 11 = s 11 := by
  unfold uGive
  split
  · next h => have := h.1.1; exact us_k _ _ (by omega)
  · exact ⟨rfl, rfl, rfl⟩
theorem uMend_k {s : Int → Int} (t : Int) : uMend s t 0 = s 0 ∧ uMend s t 1 = s 1 ∧ uMend s t 11 = s 11 := by
  unfold uMend
  split
  · next h => have := h.1; exact us_k _ _ (by omega)
  · exact ⟨rfl, rfl, rfl⟩
theorem uHeal_k {s : Int → Int} (m x : Int) : uHeal s m x 0 = s 0 ∧ uHeal s m x 1 = s 1 ∧ uHeal s m x 11 = s 11 := by
  unfold uHeal
  split
  · next h => have := h.1.1; unfold cuS; exact us_k _ _ (by omega)
  · exact ⟨rfl, rfl, rfl⟩
theorem uTrain_k {s : Int → Int} (m x : Int) : uTrain s m x 0 = s 0 ∧ uTrain s m x 1 = s 1 ∧ uTrain s m x 11 = s 11 := by
  unfold uTrain
  split
  · next h => have := h.1; exact us_k _ _ (by omega)
  · exact ⟨rfl, rfl, rfl⟩
theorem uRule_k {s : Int → Int} (w x : Int) : uRule s w x 0 = s 0 ∧ uRule s w x 1 = s 1 ∧ uRule s w x 11 = s 11 := by
  unfold uRule
  split
  · next h => exact us_k _ _ (by omega)
  · exact ⟨rfl, rfl, rfl⟩
theorem IV_0 (iv : IV N g) : 0 ≤ N := by
  obtain ⟨s, hs⟩ := iv.1
  have := Iv_aw hs.2.2.1
  omega
theorem p_meet (iv : IV N g) (hN : N < 800000) (m o : Int) : Pr (IV N) (MI X (d + 40) 146 [.inr (.inr 1), .inl m, .inl o] S0 (ov g)) (fun g1 => MI X (d + 40) 274 [.inr (.inr 143), .inl m, .inl o] S0 (ov g1)) := by
  have h0 := IV_0 iv
  exact Pr_do (q := fun s => qMeet s m o) (u := fun s => uMeet s m o) iv (by omega) (fun s hi => ⟨Iv_uMeet hi h0 m o, uMeet_k s m o⟩) (fun s r hi => c_146 r hi h0 m o) (fun g1 s r hi => m_274 r hi h0 m o)
theorem p_act (iv : IV N g) (hN : N < 800000) (a : Int) : Pr (IV (N + 1)) (MI X (d + 40) 147 [.inr (.inr 1), .inl a] S0 (ov g)) (fun g1 => MI X (d + 40) 280 [.inr (.inr 143), .inl a] S0 (ov g1)) := by
  have h0 := IV_0 iv
  exact Pr_do (q := fun s => qAct s a) (u := fun s => uAct s a) iv (by omega) (fun s hi => ⟨Iv_uAct hi hN a, uAct_k hi hN a⟩) (fun s r hi => c_147 r hi hN a) (fun g1 s r hi => m_280 r hi hN a)
theorem p_part (iv : IV N g) (hN : N < 800000) : Pr (IV N) (MI X (d + 40) 148 [.inr (.inr 1)] S0 (ov g)) (fun g1 => MI X (d + 40) 281 [.inr (.inr 143)] S0 (ov g1)) := by
  have h0 := IV_0 iv
  exact Pr_do (q := fun s => qPart s) (u := fun s => uPart s) iv (by omega) (fun s hi => ⟨Iv_uPart hi, uPart_k s⟩) (fun s r hi => c_148 r hi) (fun g1 s r hi => m_281 r hi)
theorem p_give (iv : IV N g) (hN : N < 800000) (m t : Int) : Pr (IV N) (MI X (d + 40) 149 [.inr (.inr 1), .inl m, .inl t] S0 (ov g)) (fun g1 => MI X (d + 40) 284 [.inr (.inr 143), .inl m, .inl t] S0 (ov g1)) := by
  have h0 := IV_0 iv
  exact Pr_do (q := fun s => qGive s m t) (u := fun s => uGive s m t) iv (by omega) (fun s hi => ⟨Iv_uGive hi m t, uGive_k m t⟩) (fun s r hi => c_149 r hi m t) (fun g1 s r hi => m_284 r hi m t)
theorem p_mend (iv : IV N g) (hN : N < 800000) (t : Int) : Pr (IV N) (MI X (d + 40) 150 [.inr (.inr 1), .inl t] S0 (ov g)) (fun g1 => MI X (d + 40) 285 [.inr (.inr 143), .inl t] S0 (ov g1)) := by
  have h0 := IV_0 iv
  exact Pr_do (q := fun s => qMend s t) (u := fun s => uMend s t) iv (by omega) (fun s hi => ⟨Iv_uMend hi t, uMend_k t⟩) (fun s r hi => c_150 r hi t) (fun g1 s r hi => m_285 r hi t)
theorem p_heal (iv : IV N g) (hN : N < 800000) (m x : Int) : Pr (IV N) (MI X (d + 40) 151 [.inr (.inr 1), .inl m, .inl x] S0 (ov g)) (fun g1 => MI X (d + 40) 287 [.inr (.inr 143), .inl m, .inl x] S0 (ov g1)) := by
  have h0 := IV_0 iv
  exact Pr_do (q := fun s => qHeal s m x) (u := fun s => uHeal s m x) iv (by omega) (fun s hi => ⟨Iv_uHeal hi m x, uHeal_k m x⟩) (fun s r hi => c_151 r hi m x) (fun g1 s r hi => m_287 r hi m x)
theorem p_train (iv : IV N g) (hN : N < 800000) (m x : Int) : Pr (IV N) (MI X (d + 40) 152 [.inr (.inr 1), .inl m, .inl x] S0 (ov g)) (fun g1 => MI X (d + 40) 288 [.inr (.inr 143), .inl m, .inl x] S0 (ov g1)) := by
  have h0 := IV_0 iv
  exact Pr_do (q := fun s => qTrain s m x) (u := fun s => uTrain s m x) iv (by omega) (fun s hi => ⟨Iv_uTrain hi m x, uTrain_k m x⟩) (fun s r hi => c_152 r hi m x) (fun g1 s r hi => m_288 r hi m x)
theorem p_rule (iv : IV N g) (w x : Int) (hw : -2147483648 ≤ w) (hw2 : w < 2147483648) : Pr (IV N) (MI X (d + 40) 154 [.inr (.inr 1), .inl w, .inl x] S0 (ov g)) (fun g1 => MI X (d + 40) 290 [.inr (.inr 143), .inl w, .inl x] S0 (ov g1)) :=
  Pr_do (q := fun s => qRule w x) (u := fun s => uRule s w x) iv (Int.le_refl _) (fun s hi => ⟨Iv_uRule hi w x, uRule_k w x⟩) (fun s r hi => c_154 r w x hw hw2) (fun g1 s r hi => m_290 r w x)
end
