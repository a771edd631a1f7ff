/-! what is wanted next: pure, and the class -/
abbrev Rr (σ : Type) := Sum (Int × Int) σ
section
variable {σ : Type} (t : Int → Int) (n q : Int)
def pBad (why : Int) : Rr σ := .inl (fcP t n q why, q)
def pWord (w : Int) (K : Rr σ) : Rr σ := if wdP t n q = w then K else pBad t n q 2
def pNum (lo hi : Int) (K : Int → Rr σ) : Rr σ := if kdP t n q = 2 ∧ lo ≤ vaP t n q ∧ vaP t n q ≤ hi then K (vaP t n q) else pBad t n q (if kdP t n q = 2 then 4 else 2)
def pName (K : Rr σ) : Rr σ := if kdP t n q = 1 ∧ vaP t n q ≠ 0 ∧ wdP t n q = -1 then K else pBad t n q 2
def pStop (K : Rr σ) : Rr σ := if kdP t n q = 3 ∧ vaP t n q = 59 then K else pBad t n q 2
end
theorem wd_r (t : Int → Int) (n q : Int) : -1 ≤ wdP t n q ∧ wdP t n q < 26 := by
  have l : ∀ (v : Int) (k : Nat) (i w : Int), 0 ≤ i → i + k = 26 → -1 ≤ w → w < 26 → -1 ≤ lwF v k i w ∧ lwF v k i w < 26 := by
    intro v k
    induction k with
    | zero => intro i w a b c e; exact ⟨c, e⟩
    | succ k ih =>
      intro i w a b c e
      show -1 ≤ lwF v k (i + 1) (if rsv i = v then i else w) ∧ lwF v k (i + 1) (if rsv i = v then i else w) < 26
      refine ih (i + 1) _ (by omega) (by omega) ?_ ?_ <;> split <;> omega
  unfold wdP
  split
  · exact l _ 26 0 (-1) (by omega) (by omega) (by omega) (by omega)
  · omega
theorem wd_k {t : Int → Int} {n q : Int} (h : 0 ≤ wdP t n q) : kdP t n q = 1 := by
  unfold wdP at h
  split at h
  · assumption
  · omega
/-- nothing but the TOKEN taken is other -/
def FO (g g' : Mem) : Prop := ∀ c i, 0 ≤ c → 0 ≤ i → (c ≠ 11 ∨ i < 7 ∨ 11 < i) → rd g' c i = rd g c i
theorem FO_of {g g' : Mem} (f : FK g g') (h1 : rd g' 11 12 = rd g 11 12) (h2 : rd g' 11 13 = rd g 11 13) : FO g g' := fun c i a b e => by
  by_cases z : c = 11 ∧ (i = 12 ∨ i = 13)
  · obtain ⟨rfl, rfl | rfl⟩ := z
    · exact h1
    · exact h2
  · exact f c i a b (by omega)
theorem FK_FO {g g' : Mem} (f : FO g g') : FK g g' := fun c i a b e => f c i a b (by omega)
section
variable {X : Xs} {d : Nat} {g : Mem} {t : Int → Int} {n q : Int} {σ : Type} {P : Rr σ → Int → Mem → Prop} {f : Int → Sh → Mem → Option Rs}
theorem k_92 (rw' : RWd g) (cs : Cs t n g q) {r : Rr σ} (hs : ∀ v g', FO g g' → Ct t n g' q → (kdP t n q ≠ 0 → kdP t n q ≠ 4 → Cs t n g' (nxP t n q)) → Ok (P r) (f v S0 (ov g'))) : Ok (P r) (oC (MI X d 92 [.inr (.inr 11)] S0 (ov g)) f) := by
  obtain ⟨v1, g1, e1, ct, cs1, f0, f12, f13⟩ := c_92 (X := X) (d := d) rw' cs
  have fo := FO_of f0 f12 f13
  have f1 := f0
  rw [oC_of e1]
  exact hs v1 g1 fo ct cs1
theorem k_93 (ct : Ct t n g q) (why : Int) (hf : ∀ g', FK g g' → Cf g' (fcP t n q why) q → Ok (P (pBad t n q why)) (f 0 S0 (ov g'))) : Ok (P (pBad t n q why)) (oC (MI X d 93 [.inr (.inr 11), .inl why] S0 (ov g)) f) := by
  obtain ⟨v2, g2, e2, rfl, cf, f2⟩ := c_93 (X := X) (d := d) ct why
  rw [oC_of e2]
  exact hf g2 f2 cf
theorem k_95 (rw' : RWd g) (cs : Cs t n g q) {K : Rr σ} (hs : kdP t n q = 3 → ∀ g', FO g g' → Ct t n g' q → Cs t n g' (nxP t n q) → Ok (P K) (f 1 S0 (ov g'))) (hf : ∀ g', FK g g' → Cf g' (fcP t n q 2) q → Ok (P (pBad t n q 2)) (f 0 S0 (ov g'))) : Ok (P (pStop t n q K)) (oC (MI X (d + 1) 95 [.inr (.inr 11)] S0 (ov g)) f) := by
  obtain ⟨v1, g1, e1, ct, cs1, f0, f12, f13⟩ := c_92 (X := X) (d := d) rw' cs
  have fo := FO_of f0 f12 f13
  have f1 := f0
  rw [e_95]
  simp only [↓K_tok, ↓oC_of e1, ↓oC_of (c_94 ct 59), ↓if_b2i]
  unfold pStop
  by_cases h : kdP t n q = 3 ∧ vaP t n q = 59
  · rw [if_pos h, if_pos h]
    exact hs h.1 g1 fo ct (cs1 (by omega) (by omega))
  · rw [if_neg h, if_neg h]
    obtain ⟨v2, g2, e2, rfl, cf, f2⟩ := c_93 (X := X) (d := d) ct 2
    simp only [↓oC_of e2, ↓if_pos]
    exact hf g2 (FK_tr f1 f2) cf
theorem k_96 (rw' : RWd g) (cs : Cs t n g q) {K : Rr σ} (w : Int) (w0 : 0 ≤ w) (hs : ∀ g', FO g g' → Ct t n g' q → Cs t n g' (nxP t n q) → Ok (P K) (f 1 S0 (ov g'))) (hf : ∀ g', FK g g' → Cf g' (fcP t n q 2) q → Ok (P (pBad t n q 2)) (f 0 S0 (ov g'))) : Ok (P (pWord t n q w K)) (oC (MI X (d + 1) 96 [.inr (.inr 11), .inl w] S0 (ov g)) f) := by
  obtain ⟨v1, g1, e1, ct, cs1, f0, f12, f13⟩ := c_92 (X := X) (d := d) rw' cs
  have fo := FO_of f0 f12 f13
  have f1 := f0
  rw [e_96]
  simp only [↓K_tok, ↓oC_of e1, ↓G_tok, ct.2.2.2]
  unfold pWord
  by_cases h : wdP t n q = w
  · rw [if_pos h, if_pos h]
    have := wd_k (t := t) (n := n) (q := q) (by omega)
    exact hs g1 fo ct (cs1 (by omega) (by omega))
  · rw [if_neg h, if_neg h]
    obtain ⟨v2, g2, e2, rfl, cf, f2⟩ := c_93 (X := X) (d := d) ct 2
    simp only [↓oC_of e2, ↓if_pos]
    exact hf g2 (FK_tr f1 f2) cf
theorem lcm_lt' (a b : Int) : (am_lcmp a b < 0) ↔ a < b := by
  unfold am_lcmp
  by_cases h : a < b
  · rw [if_pos h]; omega
  · rw [if_neg h]
    by_cases e : a = b
    · rw [if_pos e]; omega
    · rw [if_neg e]; omega
theorem lcm_gt' (a b : Int) : (0 < am_lcmp a b) ↔ b < a := by
  unfold am_lcmp
  by_cases h : a < b
  · rw [if_pos h]; omega
  · rw [if_neg h]
    by_cases e : a = b
    · rw [if_pos e]; omega
    · rw [if_neg e]; omega
theorem k_97 (rw' : RWd g) (cs : Cs t n g q) {K : Int → Rr σ} (lo hi : Int) (l0 : 0 ≤ lo) (h0 : hi < 2147483648) (hs : lo ≤ vaP t n q → vaP t n q ≤ hi → ∀ g', FO g g' → Ct t n g' q → Cs t n g' (nxP t n q) → Ok (P (K (vaP t n q))) (f (vaP t n q) S0 (ov g'))) (hf : ∀ c g', FK g g' → Cf g' (fcP t n q c) q → Ok (P (pBad t n q c)) (f (-1) S0 (ov g'))) : Ok (P (pNum t n q lo hi K)) (oC (MI X (d + 1) 97 [.inr (.inr 11), .inl lo, .inl hi] S0 (ov g)) f) := by
  obtain ⟨v1, g1, e1, ct, cs1, f0, f12, f13⟩ := c_92 (X := X) (d := d) rw' cs
  have fo := FO_of f0 f12 f13
  have f1 := f0
  rw [e_97]
  simp only [↓K_tok, ↓oC_of e1, ↓G_tok, ct.1, ct.2.1, lcm_lt', lcm_gt']
  unfold pNum
  by_cases h2 : kdP t n q = 2
  · simp only [if_pos h2]
    by_cases h3 : vaP t n q < lo
    · rw [if_pos h3, if_neg (by omega)]
      obtain ⟨v2, g2, e2, rfl, cf, f2⟩ := c_93 (X := X) (d := d) ct 4
      simp only [↓oC_of e2]
      exact hf 4 g2 (FK_tr f1 f2) cf
    · rw [if_neg h3]
      by_cases h4 : hi < vaP t n q
      · rw [if_pos h4, if_neg (by omega)]
        obtain ⟨v2, g2, e2, rfl, cf, f2⟩ := c_93 (X := X) (d := d) ct 4
        simp only [↓oC_of e2]
        exact hf 4 g2 (FK_tr f1 f2) cf
      · rw [if_neg h4, if_pos ⟨h2, by omega, by omega⟩, w32_id (x := vaP t n q) (by omega) (by omega)]
        exact hs (by omega) (by omega) g1 fo ct (cs1 (by omega) (by omega))
  · simp only [if_neg h2]
    rw [if_neg (fun z => h2 z.1)]
    obtain ⟨v2, g2, e2, rfl, cf, f2⟩ := c_93 (X := X) (d := d) ct 2
    simp only [↓oC_of e2]
    exact hf 2 g2 (FK_tr f1 f2) cf
theorem k_98 (rw' : RWd g) (cs : Cs t n g q) {K : Rr σ} (hs : kdP t n q = 1 → vaP t n q ≠ 0 → ∀ g', FO g g' → Ct t n g' q → Cs t n g' (nxP t n q) → Ok (P K) (f 1 S0 (ov g'))) (hf : ∀ g', FK g g' → Cf g' (fcP t n q 2) q → Ok (P (pBad t n q 2)) (f 0 S0 (ov g'))) : Ok (P (pName t n q K)) (oC (MI X (d + 1) 98 [.inr (.inr 11)] S0 (ov g)) f) := by
  obtain ⟨v1, g1, e1, ct, cs1, f0, f12, f13⟩ := c_92 (X := X) (d := d) rw' cs
  have fo := FO_of f0 f12 f13
  have f1 := f0
  have bad : Ok (P (pBad t n q 2)) (oC (MI X d 93 [.inr (.inr 11), .inl 2] S0 (ov g1)) fun r3 S3 m3 => oC (if r3 = 0 then some (0, S3, m3) else some (1, S3, m3)) f) := by
    obtain ⟨v2, g2, e2, rfl, cf, f2⟩ := c_93 (X := X) (d := d) ct 2
    rw [oC_of e2, if_pos rfl]
    exact hf g2 (FK_tr f1 f2) cf
  obtain ⟨v2, g2, e2, rfl, cf, f2⟩ := c_93 (X := X) (d := d) ct 2
  have bad' := hf g2 (FK_tr f1 f2) cf
  rw [e_98]
  simp only [↓K_tok, ↓oC_of e1, ↓G_tok, ct.1, ct.2.1, ct.2.2.2, lcm_eq, ↓oC_of e2, ↓if_pos]
  unfold pName
  by_cases h1 : kdP t n q = 1
  · rw [if_pos h1]
    by_cases h2 : vaP t n q = 0
    · rw [if_pos h2, if_neg (by omega)]
      exact bad'
    · rw [if_neg h2]
      by_cases h3 : wdP t n q = -1
      · rw [if_pos h3, if_pos ⟨h1, h2, h3⟩]
        exact hs h1 h2 g1 fo ct (cs1 (by omega) (by omega))
      · rw [if_neg h3, if_neg (by omega)]
        exact bad'
  · rw [if_neg h1, if_neg (by omega)]
    exact bad'
end
