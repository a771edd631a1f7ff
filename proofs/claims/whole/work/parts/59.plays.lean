/-! THE MODEL PLAYS -/
/-- what is kept at a level -/
def SV (g : Mem) (L : Int) (s : Int → Int) : Prop := ∀ i, 0 ≤ i → i < 104 → rd g 144 (2832 + 104 * L + i) = s i
/-- what a level leaves as it was -/
def FP (L : Int) (g g' : Mem) : Prop := ∀ c i, 0 ≤ c → 0 ≤ i → (c ≠ 144 ∨ (104 ≤ i ∧ i < 2832 + 104 * (L + 1))) → ((c ≠ 152 ∧ c ≠ 153 ∧ c ≠ 154) ∨ i < L) → rd g' c i = rd g c i
theorem FP_tr {L : Int} {g g1 g2 : Mem} (h1 : FP L g g1) (h2 : FP L g1 g2) : FP L g g2 := fun c i a b e f => (h2 c i a b e f).trans (h1 c i a b e f)
theorem FP_up {L : Int} {g g1 : Mem} (h : FP (L + 1) g g1) : FP L g g1 := fun c i a b e f => h c i a b (by omega) (by omega)
theorem FP_FM {L : Int} {g g1 : Mem} (h : FM g g1) : FP L g g1 := fun c i a b e f => h c i a b (by omega)
theorem FP_wr {L : Int} (g : Mem) {c i : Int} (x : Int) (hc : c = 152 ∨ c = 153 ∨ c = 154) (hi : L ≤ i) (h0 : 0 ≤ L) : FP L g (wr g c i x) := fun a j h1 h2 h3 h4 => by
  by_cases e : a = c
  · subst e
    exact rd_wr_ix g x (by omega) h2 (by omega)
  · exact rd_wr_ne g i j x (by omega) h1 e
theorem FP_setl {L : Int} (g : Mem) (up : Prop) [Decidable up] (x : Int) (h0 : 0 ≤ L) : FP L g (setl g up L x) := by
  unfold setl
  by_cases z : (rd g 154 L = -1 ∨ (if up then rd g 153 L < x else x < rd g 153 L))
  · rw [if_pos z]
    exact FP_tr (FP_wr (L := L) g (c := 153) (i := L) x (by omega) (Int.le_refl _) h0) (FP_wr (L := L) _ (c := 154) (i := L) _ (by omega) (Int.le_refl _) h0)
  · rw [if_neg z]
    exact fun _ _ _ _ _ _ => rfl
/-- the leaf that is meant: 0 the difference of LIFE, 1 whether the other one fell -/
def lfX (fo side : Int) (B : Int → Int) : Int := if fo = 0 then lfV B else lfF side B
/-- how far level L is: the ACTS below a are looked at -/
def PRG (g : Mem) (L a m z : Int) : Prop := rd g 152 L = a - 1 ∧ (a = 0 → rd g 154 L = -1) ∧ (1 ≤ a → rd g 153 L = m ∧ rd g 154 L = z ∧ 0 ≤ z)
def nxM (up : Bool) (c : Bool) (x a m : Int) : Int := if a = 0 then x else bif c then (bif up then am_max m x else am_min m x) else m
def nxZ (up : Bool) (c : Bool) (x a m z : Int) : Int := if a = 0 then 0 else bif c && (bif up then decide (m < x) else decide (x < m)) then a else z
theorem setl_prg {g : Mem} {L a m z x : Int} (up : Prop) [Decidable up] (h0 : 0 ≤ L) (ha : 0 ≤ a) (h1 : rd g 152 L = a) (h2 : a = 0 → rd g 154 L = -1) (h3 : 1 ≤ a → rd g 153 L = m ∧ rd g 154 L = z ∧ 0 ≤ z) : PRG (setl g up L x) L (a + 1) (nxM (decide up) true x a m) (nxZ (decide up) true x a m z) := by
  unfold PRG setl nxM nxZ
  by_cases e : a = 0
  · have := h2 e
    rw [if_pos (Or.inl this), if_pos e, if_pos e]
    refine ⟨?_, fun q => by omega, fun _ => ⟨?_, ?_, by omega⟩⟩
    · simp (disch := omega) only [rd_wr_ne]; omega
    · simp (disch := omega) only [rd_wr_ne, rd_wr_eq]
    · simp (disch := omega) only [rd_wr_eq]; omega
  · obtain ⟨q1, q2, q3⟩ := h3 (by omega)
    rw [q1, q2, if_neg e, if_neg e]
    have nz : ¬ z = -1 := by omega
    by_cases hu : up
    · simp only [nz, hu, false_or, ↓reduceIte, decide_true, cond_true, Bool.true_and]
      unfold am_max
      by_cases hx : m < x
      · simp only [hx, ↓reduceIte, decide_true, cond_true]
        refine ⟨?_, fun q => by omega, fun _ => ⟨?_, ?_, ha⟩⟩
        · simp (disch := omega) only [rd_wr_ne]; omega
        · simp (disch := omega) only [rd_wr_ne, rd_wr_eq]
        · simp (disch := omega) only [rd_wr_eq]; omega
      · simp only [hx, ↓reduceIte, decide_false, cond_false]
        exact ⟨by omega, fun q => by omega, fun _ => ⟨q1, q2, q3⟩⟩
    · simp only [nz, hu, false_or, ↓reduceIte, decide_false, cond_false, cond_true, Bool.true_and]
      unfold am_min
      by_cases hx : x < m
      · have hx2 : ¬ m < x := by omega
        simp only [hx, hx2, ↓reduceIte, decide_true, cond_true]
        refine ⟨?_, fun q => by omega, fun _ => ⟨?_, ?_, ha⟩⟩
        · simp (disch := omega) only [rd_wr_ne]; omega
        · simp (disch := omega) only [rd_wr_ne, rd_wr_eq]
        · simp (disch := omega) only [rd_wr_eq]; omega
      · simp only [hx, ↓reduceIte, decide_false, cond_false]
        refine ⟨by omega, fun q => by omega, fun _ => ⟨?_, q2, q3⟩⟩
        split <;> omega
section
variable {X : Xs} {d : Nat}
/-- a leaf is settled -/
theorem m_295_251 {g : Mem} {y : Int → Int} (r : RM g y) (turns fo f0 s0 prey shift L : Int) (hfo : fo = 0 ∨ fo = 1) (a0 : 0 ≤ f0) (a1 : f0 < 6) (b0 : 0 ≤ s0) (b1 : s0 < 6) (p0 : 0 ≤ prey) (p1 : prey < 6) (L0 : 0 ≤ L) (L1 : L < 9) (hs : shift = 0 ∨ shift = 1) (l1 : 0 ≤ mn y f0 1) (l2 : mn y f0 1 ≤ 60) (l3 : 0 ≤ mn y s0 1) (l4 : mn y s0 1 ≤ 60) :
    EI X (d + 3) 295 251 [some (.inr (.inr 143)), some (.inl turns), some (.inl fo), some (.inl f0), some (.inl s0), some (.inl prey), some (.inl shift), some (.inl L), none] [] S0 (ov g) = EI X (d + 3) 295 101 [some (.inr (.inr 143)), some (.inl turns), some (.inl fo), some (.inl f0), some (.inl s0), some (.inl prey), some (.inl shift), some (.inl L), none] [] S0 (ov (setl g ((L + shift) % 2 = 0) L (if fo = 0 then mn y f0 1 - mn y s0 1 else if mn y prey 1 = 0 then 1 else 0))) := by
  have e2 : ∀ w : Int, (w = 0 ∨ w = 1) → ((L + shift) % 2 = 0 ↔ w = 1) → ∀ x, setl g (w = 1) L x = setl g ((L + shift) % 2 = 0) L x := by
    intro w _ h x
    unfold setl
    by_cases q : w = 1
    · have q2 := h.mpr q
      simp only [q, q2, ↓reduceIte]
    · have q2 : ¬ (L + shift) % 2 = 0 := fun z => q (h.mp z)
      simp only [q, q2, ↓reduceIte]
  rw [e_295_251]
  simp (disch := omega) only [↓K_mod, ↓G_mod, ↓P_mod, ↓al_144 _, ↓as_144, ↓oC_of (m_252 r _ _ _ _ _ _), w32_id, tmod2]
  by_cases z : mn y prey 1 = 0
  · rw [if_pos z]
    rcases hfo with rfl | rfl
    · simp (disch := omega) only [↓K_mod, ↓G_mod, ↓P_mod, ↓al_144 _, ↓as_144, ↓reduceIte, ↓oC_of (m_252 r _ _ _ _ _ _), w32_id, tmod2]
      by_cases q : (L + shift) % 2 = 0
      · rw [if_pos q]
        simp (disch := omega) only [↓K_mod, ↓G_mod, ↓P_mod, ↓al_144 _, ↓as_144, ↓oC_of (m_294 g _ _ _ _ _ _)]
        rw [e2 1 (Or.inr rfl) (by omega)]
      · rw [if_neg q]
        simp (disch := omega) only [↓K_mod, ↓G_mod, ↓P_mod, ↓al_144 _, ↓as_144, ↓oC_of (m_294 g _ _ _ _ _ _)]
        rw [e2 0 (Or.inl rfl) (by omega)]
    · simp (disch := omega) only [↓K_mod, ↓G_mod, ↓P_mod, ↓al_144 _, ↓as_144, ↓reduceIte, Int.reduceEq, z, w32_id, tmod2]
      by_cases q : (L + shift) % 2 = 0
      · rw [if_pos q]
        simp (disch := omega) only [↓K_mod, ↓G_mod, ↓P_mod, ↓al_144 _, ↓as_144, ↓oC_of (m_294 g _ _ _ _ _ _)]
        rw [e2 1 (Or.inr rfl) (by omega)]
      · rw [if_neg q]
        simp (disch := omega) only [↓K_mod, ↓G_mod, ↓P_mod, ↓al_144 _, ↓as_144, ↓oC_of (m_294 g _ _ _ _ _ _)]
        rw [e2 0 (Or.inl rfl) (by omega)]
  · rw [if_neg z]
    rcases hfo with rfl | rfl
    · simp (disch := omega) only [↓K_mod, ↓G_mod, ↓P_mod, ↓al_144 _, ↓as_144, ↓reduceIte, ↓oC_of (m_252 r _ _ _ _ _ _), w32_id, tmod2]
      by_cases q : (L + shift) % 2 = 0
      · rw [if_pos q]
        simp (disch := omega) only [↓K_mod, ↓G_mod, ↓P_mod, ↓al_144 _, ↓as_144, ↓oC_of (m_294 g _ _ _ _ _ _)]
        rw [e2 1 (Or.inr rfl) (by omega)]
      · rw [if_neg q]
        simp (disch := omega) only [↓K_mod, ↓G_mod, ↓P_mod, ↓al_144 _, ↓as_144, ↓oC_of (m_294 g _ _ _ _ _ _)]
        rw [e2 0 (Or.inl rfl) (by omega)]
    · simp (disch := omega) only [↓K_mod, ↓G_mod, ↓P_mod, ↓al_144 _, ↓as_144, ↓reduceIte, Int.reduceEq, z, w32_id, tmod2]
      by_cases q : (L + shift) % 2 = 0
      · rw [if_pos q]
        simp (disch := omega) only [↓K_mod, ↓G_mod, ↓P_mod, ↓al_144 _, ↓as_144, ↓oC_of (m_294 g _ _ _ _ _ _)]
        rw [e2 1 (Or.inr rfl) (by omega)]
      · rw [if_neg q]
        simp (disch := omega) only [↓K_mod, ↓G_mod, ↓P_mod, ↓al_144 _, ↓as_144, ↓oC_of (m_294 g _ _ _ _ _ _)]
        rw [e2 0 (Or.inl rfl) (by omega)]
end
