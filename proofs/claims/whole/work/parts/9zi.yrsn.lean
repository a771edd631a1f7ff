/-! YEARS told, the model: a test -/
/-- nothing but the TOKEN ahead and the row at a is other -/
def Frw (a : Int) (g g' : Mem) : Prop := ∀ c i, 0 ≤ c → 0 ≤ i → (c ≠ 143 ∨ i < 12 ∨ 15 < i) → (c ≠ 144 ∨ i < a ∨ a + 6 ≤ i) → rd g' c i = rd g c i
theorem Frw_tr {a : Int} {g g1 g2 : Mem} (h1 : Frw a g g1) (h2 : Frw a g1 g2) : Frw a g g2 := fun c i x y z w => (h2 c i x y z w).trans (h1 c i x y z w)
theorem Frw_FM {a : Int} {g g1 : Mem} (h : FMt g g1) : Frw a g g1 := fun c i x y z _ => h c i x y z
theorem Frw_wr {a : Int} (g : Mem) {k : Int} (x : Int) (a0 : 0 ≤ a) (h : a ≤ k ∧ k < a + 6) : Frw a g (wr g 144 k x) := fun c i y z _ w => by
  by_cases e : c = 144
  · subst e; exact rd_wr_ix _ _ (by omega) z (by omega)
  · exact rd_wr_ne _ _ _ _ (by omega) y e
theorem Fdm_rw {a : Int} {g g1 : Mem} (h : Frw a g g1) (a0 : 1888 ≤ a) : Fdm g g1 := fun c i x y z w _ => h c i x y (by omega) (by omega)
/-- the row at a is r -/
abbrev Rat (g : Mem) (a : Int) (r : Int → Int) : Prop := ∀ k, 0 ≤ k → k < 6 → rd g 144 (a + k) = r k
theorem Rat_FM {a : Int} {g g1 : Mem} {r : Int → Int} (h : Rat g a r) (a0 : 0 ≤ a) (f : FMt g g1) : Rat g1 a r := fun k x y => (f _ _ (by omega) (by omega) (by omega)).trans (h k x y)
theorem Rat_wr {a : Int} {g : Mem} {r : Int → Int} (h : Rat g a r) (a0 : 0 ≤ a) {j : Int} (x : Int) (j0 : 0 ≤ j) (j6 : j < 6) : Rat (wr g 144 (a + j) x) a (us r j x) := fun k y z => by
  rw [rd_wr_if _ _ _ (by omega) (by omega), h k y z]
  unfold us
  by_cases e : k = j
  · rw [if_pos (by omega), if_pos e]
  · rw [if_neg (by omega), if_neg e]
section
variable {X : Xs} {d : Nat} {g : Mem} {t : Int → Int} {n q N a : Int} {s nm : Int → Int} {σ : Type} {P : Rr σ → Int → Mem → Prop} {f : Int → Sh → Mem → Option Rs}
theorem NMm_rw {g' : Mem} (h : NMm g s nm) (a0 : 1888 ≤ a) (fr : Frw a g g') : NMm g' s nm := ⟨(fr _ _ (by omega) (by omega) (by omega) (by omega)).trans h.1, (fr _ _ (by omega) (by omega) (by omega) (by omega)).trans h.2.1, fun i x y => (fr _ _ (by omega) (by omega) (by omega) (by omega)).trans (h.2.2.1 i x y), fun i x y => (fr _ _ (by omega) (by omega) (by omega) (by omega)).trans (h.2.2.2 i x y)⟩
theorem k_120 (hr : txR t n) (mg : Mg t n g q) (a0 : 1888 ≤ a) (a1 : a + 6 ≤ 3768) {r : Int → Int} (rt : Rat g a r) {l hi : Int} (hl : (l = 10 ∧ hi = 60) ∨ (l ≠ 10 ∧ hi = 12)) (hc : kdP t n q = 3) {J : Int → Rr σ} (hs : ∀ z g', Rat g' a (us (us r 5 (vaP t n q)) 2 z) → Frw a g g' → Mg t n g' (nx2 t n q) → Ok (P (J z)) (f 1 S0 (ov g'))) (hf : ∀ c p g', Fdm g g' → Mf g' c p → Ok (P (.inl (c, p))) (f 0 S0 (ov g'))) : Ok (P (pNum t n (nxP t n q) 0 hi J)) (oC (EI X (d + 3) 242 120 [some (.inr (.inr 143)), some (.inl a), some (.inl l)] [] S0 (ov g)) f) := by
  have e15 := mg.2.1.2.2.2.1 (Or.inr hc)
  rw [e_242_120, w32_id (x := a + 5) (by omega) (by omega), w32_id (x := a + 2) (by omega) (by omega)]
  simp (disch := omega) only [↓G_mod, e15, ↓as_144, ↓K_mod]
  rw [oC_as]
  have f0 : Frw a g (wr g 144 (a + 5) (vaP t n q)) := Frw_wr _ _ (by omega) (by omega)
  have r0 := Rat_wr rt (by omega) (j := 5) (vaP t n q) (by omega) (by omega)
  refine k_218 hr (Mg_wr mg (by omega) (by omega) (by omega) _ _) (fun v g1 fm1 mg1 => ?_)
  have f1 := Frw_tr f0 (Frw_FM fm1)
  have r1 := Rat_FM r0 (by omega) fm1
  have num : Ok (P (pNum t n (nxP t n q) 0 hi J)) (oC (oC (MI X (d + 2) 225 [.inr (.inr 143), .inl (a + 2), .inl 0, .inl hi] S0 (ov g1)) fun r6 S6 m6 => if r6 = 0 ∨ r6 = 1 then some (r6, S6, m6) else none) f) := by
    rw [oC_as]
    refine k_225 hr mg1 (a + 2) 0 hi (by omega) (by omega) (fun x y g2 fm2 mg2 => ?_) (fun c g2 fn mf => ?_)
    · exact hs _ g2 (Rat_FM (Rat_wr r1 (by omega) (j := 2) _ (by omega) (by omega)) (by omega) fm2) (Frw_tr (Frw_tr f1 (Frw_wr _ _ (by omega) (by omega))) (Frw_FM fm2)) mg2
    · exact hf _ _ g2 (Fdm_tr (Fdm_rw f1 a0) (Fdm_FN fn)) mf
  rcases hl with ⟨rfl, rfl⟩ | ⟨hl, rfl⟩
  · rw [if_pos rfl]
    simp only [↓K_mod]
    exact num
  · rw [if_neg hl]
    simp only [↓K_mod]
    exact num
end
