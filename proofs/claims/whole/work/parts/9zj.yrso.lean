/-! YEARS told, the model: a test, all of it -/
theorem us_row0 (k x : Int) : us (row0 k) 0 x = row0 x := by
  funext j
  unfold us row0
  by_cases h : j = 0
  · rw [if_pos h, if_pos h]
  · rw [if_neg h, if_neg h, if_neg h]
section
variable {X : Xs} {d : Nat} {g : Mem} {t : Int → Int} {n q N a : Int} {s nm : Int → Int} {σ : Type} {P : Rr σ → Int → Mem → Prop} {f : Int → Sh → Mem → Option Rs}
theorem k_cmp (hr : txR t n) (mg : Mg t n g q) (a0 : 1888 ≤ a) (a1 : a + 6 ≤ 3768) {r : Int → Int} (rt : Rat g a r) {l hi : Int} (hl : (l = 10 ∧ hi = 60) ∨ (l ≠ 10 ∧ hi = 12)) {J : Int → Int → Rr σ} (hs : ∀ c z g', Rat g' a (us (us r 5 c) 2 z) → Frw a g g' → Mg t n g' (nx2 t n q) → Ok (P (J c z)) (f 1 S0 (ov g'))) (hf : ∀ c p g', Fdm g g' → Mf g' c p → Ok (P (.inl (c, p))) (f 0 S0 (ov g'))) : Ok (P (pCmp t n q fun c => pNum t n (nxP t n q) 0 hi fun z => J c z)) (oC (if kdP t n q = 3 ∧ vaP t n q = 60 then EI X (d + 3) 242 120 [some (.inr (.inr 143)), some (.inl a), some (.inl l)] [] S0 (ov g) else if kdP t n q = 3 ∧ vaP t n q = 62 then EI X (d + 3) 242 120 [some (.inr (.inr 143)), some (.inl a), some (.inl l)] [] S0 (ov g) else if kdP t n q = 3 ∧ vaP t n q = 61 then EI X (d + 3) 242 120 [some (.inr (.inr 143)), some (.inl a), some (.inl l)] [] S0 (ov g) else oC (MI X (d + 2) 221 [.inr (.inr 143), .inl 2] S0 (ov g)) fun r S m => if r = 0 ∨ r = 1 then some (r, S, m) else none) f) := by
  unfold pCmp
  by_cases k3 : kdP t n q = 3
  case neg =>
    rw [if_neg (fun z => k3 z.1), if_neg (fun z => k3 z.1), if_neg (fun z => k3 z.1), if_neg (fun z => k3 z.1), oC_as]
    exact k_221 mg 2 (fun g2 fn mf => hf _ _ g2 (Fdm_FN fn) mf)
  by_cases v1 : vaP t n q = 60 ∨ vaP t n q = 62 ∨ vaP t n q = 61
  case neg =>
    rw [if_neg (by omega), if_neg (by omega), if_neg (by omega), if_neg (by omega), oC_as]
    exact k_221 mg 2 (fun g2 fn mf => hf _ _ g2 (Fdm_FN fn) mf)
  rw [if_pos (show kdP t n q = 3 ∧ (vaP t n q = 60 ∨ vaP t n q = 62 ∨ vaP t n q = 61) from ⟨k3, v1⟩)]
  have fin := k_120 (X := X) (d := d) (f := f) hr mg a0 a1 rt hl k3 (J := fun z => J (vaP t n q) z) (fun z g' x y w => hs _ z g' x y w) hf
  by_cases x1 : vaP t n q = 60
  · rw [if_pos ⟨k3, x1⟩]; exact fin
  · rw [if_neg (fun z => x1 z.2)]
    by_cases x2 : vaP t n q = 62
    · rw [if_pos ⟨k3, x2⟩]; exact fin
    · rw [if_neg (fun z => x2 z.2), if_pos ⟨k3, by omega⟩]; exact fin
end
