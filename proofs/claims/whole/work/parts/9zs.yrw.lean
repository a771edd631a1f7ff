/-! YEARS told: a STEP fails, or goes on at one place behind it -/
section
variable {t : Int → Int} {n q : Int} {s nm : Int → Int}
theorem pMn_or : (∃ e, ∀ {σ : Type} (K : Int → Rr σ), pMn t n q s nm K = .inl e) ∨ (∃ m, ∀ {σ : Type} (K : Int → Rr σ), pMn t n q s nm K = K m) := by
  by_cases a : kdP t n q = 1 ∧ vaP t n q ≠ 0 ∧ wdP t n q = -1
  · by_cases b : fn2 s nm (vaP t n q) = -1
    · exact Or.inl ⟨_, fun K => by unfold pMn pName; rw [if_pos a, if_pos b]; rfl⟩
    · exact Or.inr ⟨_, fun K => by unfold pMn pName; rw [if_pos a, if_neg b]⟩
  · exact Or.inl ⟨_, fun K => by unfold pMn pName; rw [if_neg a]; rfl⟩
theorem pTn_or : (∃ e, ∀ {σ : Type} (K : Int → Rr σ), pTn t n q s nm K = .inl e) ∨ (∃ m, ∀ {σ : Type} (K : Int → Rr σ), pTn t n q s nm K = K m) := by
  by_cases a : kdP t n q = 1 ∧ vaP t n q ≠ 0 ∧ wdP t n q = -1
  · by_cases b : fn1 s nm (vaP t n q) = -1
    · exact Or.inl ⟨_, fun K => by unfold pTn pName; rw [if_pos a, if_pos b]; rfl⟩
    · exact Or.inr ⟨_, fun K => by unfold pTn pName; rw [if_pos a, if_neg b]⟩
  · exact Or.inl ⟨_, fun K => by unfold pTn pName; rw [if_neg a]; rfl⟩
theorem pCmp_or : (∃ e, ∀ {σ : Type} (K : Int → Rr σ), pCmp t n q K = .inl e) ∨ (∃ m, ∀ {σ : Type} (K : Int → Rr σ), pCmp t n q K = K m) := by
  by_cases a : kdP t n q = 3 ∧ (vaP t n q = 60 ∨ vaP t n q = 62 ∨ vaP t n q = 61)
  · exact Or.inr ⟨_, fun K => by unfold pCmp; rw [if_pos a]⟩
  · exact Or.inl ⟨_, fun K => by unfold pCmp; rw [if_neg a]; rfl⟩
theorem pNum_or (lo hi : Int) : (∃ e, ∀ {σ : Type} (K : Int → Rr σ), pNum t n q lo hi K = .inl e) ∨ (∃ m, ∀ {σ : Type} (K : Int → Rr σ), pNum t n q lo hi K = K m) := by
  by_cases a : kdP t n q = 2 ∧ lo ≤ vaP t n q ∧ vaP t n q ≤ hi
  · exact Or.inr ⟨_, fun K => by unfold pNum; rw [if_pos a]⟩
  · exact Or.inl ⟨_, fun K => by unfold pNum; rw [if_neg a]; rfl⟩
theorem pStop_or : (∃ e, ∀ {σ : Type} (K : Rr σ), pStop t n q K = .inl e) ∨ (∀ {σ : Type} (K : Rr σ), pStop t n q K = K) := by
  by_cases a : kdP t n q = 3 ∧ vaP t n q = 59
  · exact Or.inr (fun K => by unfold pStop; rw [if_pos a])
  · exact Or.inl ⟨_, fun K => by unfold pStop; rw [if_neg a]; rfl⟩
theorem qUp_nx : qUp n q (nxP t n q) := fun _ h => nx_tr h
theorem qUp_tr {q1 q2 : Int} (h1 : qUp n q q1) (h2 : qUp n q1 q2) : qUp n q q2 := fun q0 h => h2 q0 (h1 q0 h)
theorem pTest_or : (∃ e, ∀ {σ : Type} (K : Int → (Int → Int) → Rr σ), pTest t n q s nm K = .inl e) ∨ (∃ q' r, qUp n q q' ∧ ∀ {σ : Type} (K : Int → (Int → Int) → Rr σ), pTest t n q s nm K = K q' r) := by
  by_cases w1 : wdP t n q = 20
  · rcases pCmp_or (t := t) (n := n) (q := nxP t n q) with ⟨e, h⟩ | ⟨c, h⟩
    · exact Or.inl ⟨e, fun K => by unfold pTest; rw [if_pos w1]; exact h _⟩
    rcases pNum_or (t := t) (n := n) (q := nx2 t n q) 0 12 with ⟨e, h'⟩ | ⟨z, h'⟩
    · exact Or.inl ⟨e, fun K => by unfold pTest; rw [if_pos w1, h]; exact h' _⟩
    · exact Or.inr ⟨_, _, qUp_tr (qUp_tr qUp_nx qUp_nx) qUp_nx, fun K => by unfold pTest; rw [if_pos w1, h]; exact h' _⟩
  by_cases w2 : wdP t n q = 10
  · rcases pMn_or (t := t) (n := n) (q := nxP t n q) (s := s) (nm := nm) with ⟨e, h⟩ | ⟨a, h⟩
    · exact Or.inl ⟨e, fun K => by unfold pTest; rw [if_neg w1, if_pos w2]; exact h _⟩
    rcases pCmp_or (t := t) (n := n) (q := nx2 t n q) with ⟨e, h'⟩ | ⟨c, h'⟩
    · exact Or.inl ⟨e, fun K => by unfold pTest; rw [if_neg w1, if_pos w2, h]; exact h' _⟩
    rcases pNum_or (t := t) (n := n) (q := nxP t n (nx2 t n q)) 0 60 with ⟨e, h''⟩ | ⟨z, h''⟩
    · exact Or.inl ⟨e, fun K => by unfold pTest; rw [if_neg w1, if_pos w2, h, h']; exact h'' _⟩
    · exact Or.inr ⟨_, _, qUp_tr (qUp_tr (qUp_tr qUp_nx qUp_nx) qUp_nx) qUp_nx, fun K => by unfold pTest; rw [if_neg w1, if_pos w2, h, h']; exact h'' _⟩
  by_cases w3 : wdP t n q = 21
  · rcases pTn_or (t := t) (n := n) (q := nxP t n q) (s := s) (nm := nm) with ⟨e, h⟩ | ⟨a, h⟩
    · exact Or.inl ⟨e, fun K => by unfold pTest; rw [if_neg w1, if_neg w2, if_pos w3]; exact h _⟩
    · exact Or.inr ⟨_, _, qUp_tr qUp_nx qUp_nx, fun K => by unfold pTest; rw [if_neg w1, if_neg w2, if_pos w3]; exact h _⟩
  by_cases w4 : wdP t n q = 22
  · exact Or.inr ⟨_, _, qUp_nx, fun K => by unfold pTest; rw [if_neg w1, if_neg w2, if_neg w3, if_pos w4]⟩
  · exact Or.inl ⟨_, fun K => by unfold pTest; rw [if_neg w1, if_neg w2, if_neg w3, if_neg w4]; rfl⟩
theorem pRest_or (w : Int) : (∃ e, ∀ {σ : Type} (K : Int → (Int → Int) → Rr σ), pRest t n w q s nm K = .inl e) ∨ (∃ q' r, qUp n q q' ∧ ∀ {σ : Type} (K : Int → (Int → Int) → Rr σ), pRest t n w q s nm K = K q' r) := by
  by_cases w1 : w = 12
  · rcases pMn_or (t := t) (n := n) (q := q) (s := s) (nm := nm) with ⟨e, h⟩ | ⟨a, h⟩
    · exact Or.inl ⟨e, fun K => by unfold pRest; rw [if_pos w1]; exact h _⟩
    rcases pMn_or (t := t) (n := n) (q := nxP t n q) (s := s) (nm := nm) with ⟨e, h'⟩ | ⟨o, h'⟩
    · exact Or.inl ⟨e, fun K => by unfold pRest; rw [if_pos w1, h]; exact h' _⟩
    · exact Or.inr ⟨_, _, qUp_tr qUp_nx qUp_nx, fun K => by unfold pRest; rw [if_pos w1, h]; exact h' _⟩
  by_cases w2 : w = 17
  · rcases pMn_or (t := t) (n := n) (q := q) (s := s) (nm := nm) with ⟨e, h⟩ | ⟨a, h⟩
    · exact Or.inl ⟨e, fun K => by unfold pRest; rw [if_neg w1, if_pos w2]; exact h _⟩
    rcases pNum_or (t := t) (n := n) (q := nxP t n q) 1 60 with ⟨e, h'⟩ | ⟨z, h'⟩
    · exact Or.inl ⟨e, fun K => by unfold pRest; rw [if_neg w1, if_pos w2, h]; exact h' _⟩
    · exact Or.inr ⟨_, _, qUp_tr qUp_nx qUp_nx, fun K => by unfold pRest; rw [if_neg w1, if_pos w2, h]; exact h' _⟩
  by_cases w3 : w = 19
  · rcases pTest_or (t := t) (n := n) (q := q) (s := s) (nm := nm) with ⟨e, h⟩ | ⟨q', r, u, h⟩
    · exact Or.inl ⟨e, fun K => by unfold pRest; rw [if_neg w1, if_neg w2, if_pos w3]; exact h _⟩
    · exact Or.inr ⟨_, _, u, fun K => by unfold pRest; rw [if_neg w1, if_neg w2, if_pos w3]; exact h _⟩
  by_cases w4 : w = 23
  · rcases pNum_or (t := t) (n := n) (q := q) 1 99 with ⟨e, h'⟩ | ⟨z, h'⟩
    · exact Or.inl ⟨e, fun K => by unfold pRest; rw [if_neg w1, if_neg w2, if_neg w3, if_pos w4]; exact h' _⟩
    · exact Or.inr ⟨_, _, qUp_nx, fun K => by unfold pRest; rw [if_neg w1, if_neg w2, if_neg w3, if_pos w4]; exact h' _⟩
  · exact Or.inr ⟨_, _, fun _ h => h, fun K => by unfold pRest; rw [if_neg w1, if_neg w2, if_neg w3, if_neg w4]⟩
theorem pStep_or (hk : kdP t n q ≠ 0) (R : Int → Int → Int) (np ns D : Int) (oc om : Int → Int) : (∃ e, ∀ {σ : Type} (K : Int → (Int → Int → Int) → Int → Int → Int → (Int → Int) → (Int → Int) → Rr σ), pStep t n q s nm R np ns D oc om K = .inl e) ∨ (∃ q' R' np' ns' D' oc' om', (q < q' ∧ q' ≤ n) ∧ ∀ {σ : Type} (K : Int → (Int → Int → Int) → Int → Int → Int → (Int → Int) → (Int → Int) → Rr σ), pStep t n q s nm R np ns D oc om K = K q' R' np' ns' D' oc' om') := by
  have u1 := nx_lt t hk
  by_cases w1 : wdP t n q = 24 ∧ 0 < D
  · rcases pStop_or (t := t) (n := n) (q := nxP t n q) with ⟨e, h⟩ | h
    · exact Or.inl ⟨e, fun K => by unfold pStep; rw [if_pos w1]; exact h _⟩
    · exact Or.inr ⟨_, _, _, _, _, _, _, nx_tr u1, fun K => by unfold pStep; rw [if_pos w1]; exact h _⟩
  by_cases w2 : ¬ isSt (wdP t n q)
  · exact Or.inl ⟨_, fun K => by unfold pStep; rw [if_neg w1, if_pos w2]; rfl⟩
  by_cases w3 : 30 ≤ ns
  · exact Or.inl ⟨_, fun K => by unfold pStep; rw [if_neg w1, if_neg w2, if_pos w3]; rfl⟩
  by_cases w4 : isOp (wdP t n q) ∧ 3 ≤ D
  · exact Or.inl ⟨_, fun K => by unfold pStep; rw [if_neg w1, if_neg w2, if_neg w3, if_pos w4]; rfl⟩
  rcases pRest_or (t := t) (n := n) (q := nxP t n q) (s := s) (nm := nm) (wdP t n q) with ⟨e, h⟩ | ⟨q1, r, u, h⟩
  · exact Or.inl ⟨e, fun K => by unfold pStep; rw [if_neg w1, if_neg w2, if_neg w3, if_neg w4]; exact h _⟩
  have u2 := u q u1
  rcases pStop_or (t := t) (n := n) (q := q1) with ⟨e, h'⟩ | h'
  · exact Or.inl ⟨e, fun K => by unfold pStep; rw [if_neg w1, if_neg w2, if_neg w3, if_neg w4, h]; exact h' _⟩
  by_cases w5 : isOp (wdP t n q)
  · exact Or.inr ⟨_, _, _, _, _, _, _, nx_tr u2, fun K => by unfold pStep; rw [if_neg w1, if_neg w2, if_neg w3, if_neg w4, h, h', if_pos w5]⟩
  · exact Or.inr ⟨_, _, _, _, _, _, _, nx_tr u2, fun K => by unfold pStep; rw [if_neg w1, if_neg w2, if_neg w3, if_neg w4, h, h', if_neg w5]⟩
end
section
variable {X : Xs} {d : Nat} {g : Mem} {t : Int → Int} {n q N : Int} {s nm om oc : Int → Int} {R : Int → Int → Int} {np ns D : Int} {σ : Type} {P : Rr σ → Int → Mem → Prop} {f : Int → Sh → Mem → Option Rs}
/-- what a STEP read leaves, as a value -/
abbrev Yt := Int × (Int → Int → Int) × Int × Int × Int × (Int → Int) × (Int → Int)
theorem k_244u (hr : txR t n) (iv : Iv N s) (my : MY t n g s nm R np ns D om q) (hk : kdP t n q ≠ 0) {K : Int → (Int → Int → Int) → Int → Int → Int → (Int → Int) → (Int → Int) → Rr σ} (hs : ∀ q' R' np' ns' D' oc' om' g', q < q' → MY t n g' s nm R' np' ns' D' om' q' → Fyr g g' → Ok (P (K q' R' np' ns' D' oc' om')) (f 1 S0 (ov g'))) (hf : ∀ c p g', Fyr g g' → Mf g' c p → Ok (P (.inl (c, p))) (f 0 S0 (ov g'))) : Ok (P (pStep t n q s nm R np ns D oc om K)) (oC (MI X (d + 12) 244 [.inr (.inr 143)] S0 (ov g)) f) := by
  obtain ⟨r, m, v, e, h⟩ : ∃ (r : Int) (m : Mem) (v : Rr Yt), MI X (d + 12) 244 [.inr (.inr 143)] S0 (ov g) = some (r, S0, ov m) ∧ v = pStep t n q s nm R np ns D oc om (fun a b c d' e f' g' => .inr (a, b, c, d', e, f', g')) ∧ Fyr g m ∧ (match v with | .inl (c, p) => r = 0 ∧ Mf m c p | .inr (q', R', np', ns', D', _, om') => r = 1 ∧ MY t n m s nm R' np' ns' D' om' q') := by
    have q1 := k_244 (d := d) (X := X) (oc := oc) (σ := Yt) (P := fun v r m => Fyr g m ∧ (match v with | .inl (c, p) => r = 0 ∧ Mf m c p | .inr (q', R', np', ns', D', _, om') => r = 1 ∧ MY t n m s nm R' np' ns' D' om' q')) (f := fun r S m => some (r, S, m)) hr iv my hk (K := fun a b c d' e f' g' => .inr (a, b, c, d', e, f', g')) (fun q' R' np' ns' D' oc' om' g' h1 h2 => Ok_some ⟨h2, rfl, h1⟩) (fun c p g' h1 h2 => Ok_some ⟨h1, rfl, h2⟩)
    obtain ⟨r, m, e, h⟩ := q1
    refine ⟨r, m, _, ?_, rfl, h⟩
    cases hm : MI X (d + 12) 244 [.inr (.inr 143)] S0 (ov g) with
    | none => rw [hm] at e; cases e
    | some z => rw [hm] at e; exact e
  obtain ⟨hv, fy, h⟩ := h
  rw [oC_of e]
  rcases pStep_or (s := s) (nm := nm) hk R np ns D oc om with ⟨⟨c, p⟩, u⟩ | ⟨q', R', np', ns', D', oc', om', lt, u⟩
  · rw [u] at hv
    rw [u]
    subst hv
    obtain ⟨rfl, mf⟩ := h
    exact hf c p m fy mf
  · rw [u] at hv
    rw [u]
    subst hv
    obtain ⟨rfl, my'⟩ := h
    exact hs q' R' np' ns' D' oc' om' m lt.1 my' fy
end
