/-! TOKENS of a text t, n long: pure -/
def rnF (q : Int → Bool) : Nat → Int → Int
  | 0, p => p
  | k + 1, p => bif q p then rnF q k (p + 1) else p
/-- the end of a run of what q tells, from p on -/
def run (q : Int → Bool) (n p : Int) : Int := rnF (fun i => decide (i < n) && q i) (n - p).toNat p
theorem run_s (q : Int → Bool) (n p : Int) : run q n p = if p < n ∧ q p = true then run q n (p + 1) else p := by
  unfold run
  by_cases h : p < n
  · obtain ⟨k, hk⟩ : ∃ k, (n - p).toNat = k + 1 := ⟨(n - p).toNat - 1, by omega⟩
    rw [hk, show (n - (p + 1)).toNat = k by omega]
    show (bif (decide (p < n) && q p) then _ else _) = _
    rw [decide_eq_true h, Bool.true_and]
    cases hq : q p
    · rw [if_neg (fun z => by cases z.2)]; rfl
    · rw [if_pos ⟨h, rfl⟩]; rfl
  · rw [show (n - p).toNat = 0 by omega, if_neg (fun z => h z.1)]
    rfl
theorem run_b (q : Int → Bool) (n : Int) : ∀ (k : Nat) (p : Int), (n - p).toNat = k → p ≤ n → p ≤ run q n p ∧ run q n p ≤ n ∧ (∀ j, p ≤ j → j < run q n p → q j = true) ∧ (run q n p < n → q (run q n p) = false) := by
  intro k
  induction k with
  | zero =>
    intro p hk hp
    rw [run_s, if_neg (by omega)]
    exact ⟨by omega, hp, fun j a b => by omega, fun h => by omega⟩
  | succ k ih =>
    intro p hk hp
    rw [run_s]
    by_cases h : p < n ∧ q p = true
    · rw [if_pos h]
      obtain ⟨a, b, c, e⟩ := ih (p + 1) (by omega) (by omega)
      refine ⟨by omega, b, fun j x y => ?_, e⟩
      by_cases z : j = p
      · rw [z]; exact h.2
      · exact c j (by omega) y
    · rw [if_neg h]
      refine ⟨by omega, hp, fun j a b => by omega, fun z => ?_⟩
      cases hq : q p
      · rfl
      · exact absurd ⟨z, hq⟩ h
abbrev isLt (c : Int) : Prop := 97 ≤ c ∧ c ≤ 122
abbrev isDg (c : Int) : Prop := 48 ≤ c ∧ c ≤ 57
abbrev isBl (c : Int) : Prop := c = 10 ∨ c = 32
abbrev isSg (c : Int) : Prop := c = 59 ∨ c = 60 ∨ c = 62 ∨ c = 61
section
variable (t : Int → Int) (n : Int)
def skP (p : Int) : Int := run (fun i => decide (isBl (t i))) n p
def ewP (p : Int) : Int := run (fun i => decide (isLt (t i))) n p
def edP (p : Int) : Int := run (fun i => decide (isDg (t i))) n p
/-- letters, in a row -/
def wl (p e : Int) : List Int := (List.range (e - p).toNat).map (fun i => t (p + (i : Nat)))
/-- the end of the TOKEN that begins at p; its kind (as the class numbers them), its value -/
def enP (p : Int) : Int := if n ≤ p then n else if isLt (t p) then ewP t n p else if isDg (t p) then edP t n p else p + 1
def kdP (p : Int) : Int := if n ≤ p then 0 else if isLt (t p) then 1 else if isDg (t p) then (if edP t n p - p ≤ 4 then 2 else 4) else if isSg (t p) then 3 else 4
end
def vl (l : List Int) : Int := l.foldl (fun a x => a * 256 + x) 0
def nl (l : List Int) : Int := l.foldl (fun a x => a * 10 + (x - 48)) 0
def vaP (t : Int → Int) (n p : Int) : Int := if n ≤ p then 0 else if isLt (t p) then (if ewP t n p - p ≤ 8 then vl (wl t p (ewP t n p)) else 0) else if isDg (t p) ∧ edP t n p - p ≤ 4 then nl (wl t p (edP t n p)) else t p
theorem vl_s (l : List Int) (x : Int) : vl (l ++ [x]) = vl l * 256 + x := by unfold vl; rw [List.foldl_append]; rfl
theorem nl_s (l : List Int) (x : Int) : nl (l ++ [x]) = nl l * 10 + (x - 48) := by unfold nl; rw [List.foldl_append]; rfl
theorem wl_s (t : Int → Int) {p i : Int} (h : p ≤ i) : wl t p (i + 1) = wl t p i ++ [t i] := by
  unfold wl
  rw [show (i + 1 - p).toNat = (i - p).toNat + 1 by omega, List.range_succ, List.map_append]
  congr 1
  show [t (p + (((i - p).toNat : Nat) : Int))] = [t i]
  rw [show p + (((i - p).toNat : Nat) : Int) = i by omega]
theorem wl_0 (t : Int → Int) (p : Int) : wl t p p = [] := by
  unfold wl
  rw [show (p - p).toNat = 0 by omega]
  rfl
theorem wl_len (t : Int → Int) (p e : Int) : (wl t p e).length = (e - p).toNat := by unfold wl; rw [List.length_map, List.length_range]
theorem wl_get (t : Int → Int) (p e : Int) (j : Nat) (h : j < (e - p).toNat) : (wl t p e).getD j 0 = t (p + j) := by
  unfold wl
  rw [List.getD_eq_getElem?_getD, List.getElem?_map, List.getElem?_range h]
  rfl
theorem wl_mem {t : Int → Int} {p e x : Int} (h : x ∈ wl t p e) : ∃ j, p ≤ j ∧ j < e ∧ x = t j := by
  unfold wl at h
  rw [List.mem_map] at h
  obtain ⟨i, hi, rfl⟩ := h
  rw [List.mem_range] at hi
  exact ⟨p + i, by omega, by omega, rfl⟩
/-- numbers below 256, no 0: told apart by the value -/
theorem vl_inj : ∀ (m : Nat) (a b : List Int), a.length = m → (∀ x ∈ a, 1 ≤ x ∧ x < 256) → (∀ x ∈ b, 1 ≤ x ∧ x < 256) → vl a = vl b → a = b := by
  have nn : ∀ (m : Nat) (l : List Int), l.length = m → (∀ x ∈ l, 1 ≤ x ∧ x < 256) → 0 ≤ vl l := by
    intro m
    induction m with
    | zero =>
      intro l hl h
      rw [List.length_eq_zero_iff.1 hl]
      exact Int.le_refl 0
    | succ m ih =>
      intro l hl h
      rcases List.eq_nil_or_concat l with z | ⟨l', x, z⟩
      · rw [z] at hl; cases hl
      · rw [z, List.concat_eq_append] at h hl ⊢
        rw [List.length_append] at hl
        have q := ih l' (by simpa using hl) (fun y hy => h y (List.mem_append_left _ hy))
        have hx := h x (List.mem_append_right _ (List.mem_singleton.2 rfl))
        rw [vl_s]
        omega
  intro m
  induction m with
  | zero =>
    intro a b hl ha hb h
    have a0 := List.length_eq_zero_iff.1 hl
    subst a0
    rcases List.eq_nil_or_concat b with z | ⟨l', x, z⟩
    · exact z.symm
    · rw [z, List.concat_eq_append] at hb h
      have q := nn l'.length l' rfl (fun y hy => hb y (List.mem_append_left _ hy))
      have hx := hb x (List.mem_append_right _ (List.mem_singleton.2 rfl))
      rw [vl_s] at h
      have : vl [] = 0 := rfl
      omega
  | succ m ih =>
    intro a b hl ha hb h
    rcases List.eq_nil_or_concat a with z | ⟨a', x, z⟩
    · rw [z] at hl; cases hl
    rw [z, List.concat_eq_append] at ha hl h ⊢
    rw [List.length_append] at hl
    have qa := nn a'.length a' rfl (fun y hy => ha y (List.mem_append_left _ hy))
    have hx := ha x (List.mem_append_right _ (List.mem_singleton.2 rfl))
    rcases List.eq_nil_or_concat b with w | ⟨b', y, w⟩
    · subst w
      rw [vl_s] at h
      have : vl [] = 0 := rfl
      omega
    · rw [w, List.concat_eq_append] at hb h ⊢
      have hy := hb y (List.mem_append_right _ (List.mem_singleton.2 rfl))
      rw [vl_s, vl_s] at h
      have e1 : x = y := by omega
      have e2 : vl a' = vl b' := by omega
      rw [e1, ih a' b' (by simpa using hl) (fun y hy => ha y (List.mem_append_left _ hy)) (fun y hy => hb y (List.mem_append_left _ hy)) e2]
/-- how large letters in a row can be -/
def bnV : Nat → Int
  | 0 => 1
  | k + 1 => (bnV k - 1) * 256 + 123
theorem vl_bn : ∀ (m : Nat) (l : List Int), l.length = m → (∀ x ∈ l, 0 ≤ x ∧ x ≤ 122) → 0 ≤ vl l ∧ vl l < bnV m := by
  intro m
  induction m with
  | zero =>
    intro l hl h
    rw [List.length_eq_zero_iff.1 hl]
    exact ⟨Int.le_refl 0, by decide⟩
  | succ m ih =>
    intro l hl h
    rcases List.eq_nil_or_concat l with z | ⟨l', x, z⟩
    · rw [z] at hl; cases hl
    · rw [z, List.concat_eq_append] at h hl ⊢
      rw [List.length_append] at hl
      have q := ih l' (by simpa using hl) (fun y hy => h y (List.mem_append_left _ hy))
      have hx := h x (List.mem_append_right _ (List.mem_singleton.2 rfl))
      rw [vl_s]
      show _ ∧ _ < (bnV m - 1) * 256 + 123
      omega
theorem bn_7 : ∀ m : Fin 8, bnV m.val ≤ 36028797018963968 := by decide
theorem nl_bn : ∀ (m : Nat) (l : List Int), l.length = m → m ≤ 4 → (∀ x ∈ l, 48 ≤ x ∧ x ≤ 57) → 0 ≤ nl l ∧ nl l < 10 ^ m := by
  intro m
  induction m with
  | zero =>
    intro l hl m4 h
    rw [List.length_eq_zero_iff.1 hl]
    exact ⟨Int.le_refl 0, by decide⟩
  | succ m ih =>
    intro l hl m4 h
    rcases List.eq_nil_or_concat l with z | ⟨l', x, z⟩
    · rw [z] at hl; cases hl
    · rw [z, List.concat_eq_append] at h hl ⊢
      rw [List.length_append] at hl
      have q := ih l' (by simpa using hl) (by omega) (fun y hy => h y (List.mem_append_left _ hy))
      have hx := h x (List.mem_append_right _ (List.mem_singleton.2 rfl))
      rw [nl_s, Int.pow_succ]
      omega
theorem am_lshl_8 (a : Int) (h0 : 0 ≤ a) (h1 : a < 36028797018963968) : am_lshl a 8 = a * 256 := by
  unfold am_lshl
  have e : (Int64.ofInt a <<< ((Int32.ofInt 8).toInt64 &&& 63)).toBitVec.toNat = a.toNat * 2 ^ 8 := by
    show ((Int64.ofInt a).toBitVec <<< (((Int32.ofInt 8).toInt64 &&& 63).toBitVec.smod 64)).toNat = _
    rw [BitVec.shiftLeft_eq', BitVec.toNat_shiftLeft, bv_of64]
    have : (((Int32.ofInt 8).toInt64 &&& 63).toBitVec.smod 64).toNat = 8 := by decide
    rw [this, Nat.shiftLeft_eq, Nat.mod_eq_of_lt (by omega)]
    omega
  rw [bv_to64 _ (by rw [e]; omega), e]
  omega
theorem am_lor_8 (a x : Int) (h0 : 0 ≤ a) (h1 : a < 36028797018963968) (x0 : 0 ≤ x) (x1 : x < 256) : am_lor (a * 256) x = a * 256 + x := by
  have q := am_lor_add x a 8 x0 (by omega) h0 (by omega)
  have cm : am_lor (a * 256) x = am_lor x (a * 256) := by
    obtain ⟨y, rfl⟩ := Int.eq_ofNat_of_zero_le x0
    obtain ⟨z, hz⟩ := Int.eq_ofNat_of_zero_le (show 0 ≤ a * 256 by omega)
    rw [hz, am_lor_n _ _ (by omega) (by omega), am_lor_n _ _ (by omega) (by omega), Nat.or_comm]
  rw [cm]
  have e : (2 : Int) ^ 8 = 256 := by decide
  rw [e] at q
  omega
/-- letters stand between p and its end -/
theorem ew_b (t : Int → Int) {n p : Int} (h : p < n) (hl : isLt (t p)) : p < ewP t n p ∧ ewP t n p ≤ n ∧ (∀ j, p ≤ j → j < ewP t n p → isLt (t j)) ∧ (ewP t n p < n → ¬ isLt (t (ewP t n p))) := by
  obtain ⟨a, b, c, e⟩ := run_b (fun i => decide (isLt (t i))) n _ p rfl (by omega)
  have g : p < ewP t n p := by
    unfold ewP
    rw [run_s, if_pos ⟨h, decide_eq_true hl⟩]
    have := (run_b (fun i => decide (isLt (t i))) n _ (p + 1) rfl (by omega)).1
    omega
  exact ⟨g, b, fun j x y => of_decide_eq_true (c j x y), fun z => of_decide_eq_false (e z)⟩
theorem ed_b (t : Int → Int) {n p : Int} (h : p < n) (hl : isDg (t p)) : p < edP t n p ∧ edP t n p ≤ n ∧ (∀ j, p ≤ j → j < edP t n p → isDg (t j)) ∧ (edP t n p < n → ¬ isDg (t (edP t n p))) := by
  obtain ⟨a, b, c, e⟩ := run_b (fun i => decide (isDg (t i))) n _ p rfl (by omega)
  have g : p < edP t n p := by
    unfold edP
    rw [run_s, if_pos ⟨h, decide_eq_true hl⟩]
    have := (run_b (fun i => decide (isDg (t i))) n _ (p + 1) rfl (by omega)).1
    omega
  exact ⟨g, b, fun j x y => of_decide_eq_true (c j x y), fun z => of_decide_eq_false (e z)⟩
theorem sk_b (t : Int → Int) {n p : Int} (h : p ≤ n) : p ≤ skP t n p ∧ skP t n p ≤ n ∧ (skP t n p < n → ¬ isBl (t (skP t n p))) := by
  obtain ⟨a, b, c, e⟩ := run_b (fun i => decide (isBl (t i))) n _ p rfl h
  exact ⟨a, b, fun z => of_decide_eq_false (e z)⟩
theorem sk_s (t : Int → Int) (n p : Int) : skP t n p = if p < n ∧ isBl (t p) then skP t n (p + 1) else p := by
  have e := run_s (fun i => decide (isBl (t i))) n p
  by_cases h : p < n ∧ isBl (t p)
  · rw [if_pos h]
    rw [if_pos ⟨h.1, decide_eq_true h.2⟩] at e
    exact e
  · rw [if_neg h]
    rw [if_neg (fun z => h ⟨z.1, of_decide_eq_true z.2⟩)] at e
    exact e
theorem ew_s (t : Int → Int) (n p : Int) : ewP t n p = if p < n ∧ isLt (t p) then ewP t n (p + 1) else p := by
  have e := run_s (fun i => decide (isLt (t i))) n p
  by_cases h : p < n ∧ isLt (t p)
  · rw [if_pos h]
    rw [if_pos ⟨h.1, decide_eq_true h.2⟩] at e
    exact e
  · rw [if_neg h]
    rw [if_neg (fun z => h ⟨z.1, of_decide_eq_true z.2⟩)] at e
    exact e
theorem ed_s (t : Int → Int) (n p : Int) : edP t n p = if p < n ∧ isDg (t p) then edP t n (p + 1) else p := by
  have e := run_s (fun i => decide (isDg (t i))) n p
  by_cases h : p < n ∧ isDg (t p)
  · rw [if_pos h]
    rw [if_pos ⟨h.1, decide_eq_true h.2⟩] at e
    exact e
  · rw [if_neg h]
    rw [if_neg (fun z => h ⟨z.1, of_decide_eq_true z.2⟩)] at e
    exact e
