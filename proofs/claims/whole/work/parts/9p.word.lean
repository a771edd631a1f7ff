/-! the model's words -/
def ksP (i : Int) : Int := am_keys.getD i.toNat 0
def kst (w : Int) : Int := [1, 6, 10, 16, 21, 27, 31, 37, 44, 51, 60, 65, 71, 76, 81, 84, 89, 96, 101, 105, 110, 115, 119, 124, 129, 136, 143].getD w.toNat 0
abbrev ken (w : Int) : Int := kst (w + 1) - 1
/-- the class' word, by the model's -/
def cmP (w : Int) : Int := if 6 ≤ w ∧ w ≤ 8 then w - 1 else if w = 5 then 8 else if 23 ≤ w ∧ w ≤ 25 then w - 3 else if 20 ≤ w ∧ w ≤ 22 then w + 3 else w
/-- the model's word, by the class' -/
def pmP (w : Int) : Int := if 5 ≤ w ∧ w ≤ 7 then w + 1 else if w = 8 then 5 else if 20 ≤ w ∧ w ≤ 22 then w + 3 else if 23 ≤ w ∧ w ≤ 25 then w - 3 else w
theorem kw_1 : ∀ w : Fin 26, ksP (ken (w.val : Int)) = 32 ∧ 1 ≤ kst (w.val : Int) ∧ kst (w.val : Int) < ken (w.val : Int) ∧ ken (w.val : Int) - kst (w.val : Int) ≤ 8 ∧ ken (w.val : Int) < 143 ∧ vl (wl ksP (kst (w.val : Int)) (ken (w.val : Int))) = rsv (cmP (w.val : Int)) := by decide
theorem kw_2 : ∀ w : Fin 26, ∀ j : Fin 8, kst (w.val : Int) + (j.val : Int) < ken (w.val : Int) → 97 ≤ ksP (kst (w.val : Int) + (j.val : Int)) ∧ ksP (kst (w.val : Int) + (j.val : Int)) ≤ 122 := by decide
theorem kw_3 : ∀ i : Fin 143, 0 ≤ ksP (i.val : Int) ∧ ksP (i.val : Int) < 128 := by decide
theorem kw_4 : ∀ i : Fin 26, ff (fun w => decide (rsv (cmP w) = rsv (i.val : Int))) 26 0 = pmP (lwF (rsv (i.val : Int)) 26 0 (-1)) := by decide
theorem kw_5 : ∀ w : Fin 26, 0 ≤ cmP (w.val : Int) ∧ cmP (w.val : Int) < 26 := by decide
theorem ff_cg {p r : Int → Bool} : ∀ (k : Nat) (m : Int), (∀ i, m ≤ i → i < m + k → p i = r i) → ff p k m = ff r k m
  | 0, _, _ => rfl
  | k + 1, m, h => by
    show (bif p m then m else ff p k (m + 1)) = (bif r m then m else ff r k (m + 1))
    rw [h m (by omega) (by omega), ff_cg k (m + 1) (fun i a b => h i (by omega) (by omega))]
theorem ff_no {p : Int → Bool} : ∀ (k : Nat) (m : Int), (∀ i, m ≤ i → i < m + k → p i = false) → ff p k m = -1
  | 0, _, _ => rfl
  | k + 1, m, h => by
    show (bif p m then m else ff p k (m + 1)) = -1
    rw [h m (by omega) (by omega)]
    exact ff_no k (m + 1) (fun i a b => h i (by omega) (by omega))
theorem lw_no {v : Int} : ∀ (k : Nat) (i w : Int), (∀ j, i ≤ j → j < i + k → rsv j ≠ v) → lwF v k i w = w
  | 0, _, _, _ => rfl
  | k + 1, i, w, h => by
    show lwF v k (i + 1) (if rsv i = v then i else w) = w
    rw [if_neg (h i (by omega) (by omega))]
    exact lw_no k (i + 1) w (fun j a b => h j (by omega) (by omega))
/-- both find the same word -/
theorem wd_pm (v : Int) : ff (fun w => decide (rsv (cmP w) = v)) 26 0 = pmP (lwF v 26 0 (-1)) := by
  by_cases h : ∃ i : Fin 26, rsv (i.val : Int) = v
  · obtain ⟨i, hi⟩ := h
    subst hi
    exact kw_4 i
  · have no : ∀ j : Int, 0 ≤ j → j < 26 → rsv j ≠ v := fun j a b e => h ⟨⟨j.toNat, by omega⟩, by
      show rsv ((j.toNat : Nat) : Int) = v
      rw [show ((j.toNat : Nat) : Int) = j by omega]; exact e⟩
    rw [ff_no 26 0 (fun i a b => decide_eq_false (no _ (kw_5 ⟨i.toNat, by omega⟩ |>.1 |> fun z => by
      have e : ((i.toNat : Nat) : Int) = i := by omega
      have := kw_5 ⟨i.toNat, by omega⟩
      simp only [e] at this
      exact this.1) (by
      have e : ((i.toNat : Nat) : Int) = i := by omega
      have := kw_5 ⟨i.toNat, by omega⟩
      simp only [e] at this
      exact this.2))), lw_no 26 0 (-1) (fun j a b => no j a (by omega))]
    rfl
section
variable {X : Xs} {d : Nat} {g : Mem} {t : Int → Int} {n q : Int}
theorem al_keys (g : Mem) {i : Int} (h1 : 0 ≤ i) (h2 : i < 143) : aldB S0 (ov g) (-7) i = some (ksP i) := by
  unfold aldB
  rw [if_pos (by decide)]
  have e : am_str (-7) = am_keys := rfl
  have l : ((am_keys.length : Nat) : Int) = 143 := rfl
  rw [e, if_pos ⟨h1, by rw [l]; exact h2⟩]
  rfl
theorem m_340 (S : Sh) (h : Mem) : MI X (d + 1) 340 [.inr (.inr (-9))] S h = some (143, S, h) := by
  rw [e_340, if_pos (Or.inr rfl)]
  have e : aln X S (-9 + 2) = some 143 := rfl
  have e2 : MI X d 342 [.inr (.inr (-9))] S h = some (0, S, h) := by
    rw [e_342]
    rfl
  rw [e, oK_some, if_pos (Or.inr rfl), oC_of e2]
  rfl
theorem m_341 (g : Mem) {i : Int} (h1 : 0 ≤ i) (h2 : i < 143) : MI X (d + 4) 341 [.inr (.inr (-9)), .inl i] S0 (ov g) = some (ksP i, S0, ov g) := by
  have k3 := kw_3 ⟨i.toNat, by omega⟩
  have ei : ((i.toNat : Nat) : Int) = i := by omega
  simp only [ei] at k3
  have e1 : MI X (d + 3) 343 [.inr (.inr (-9))] S0 (ov g) = some (1, S0, ov g) := by
    rw [e_343]
    rfl
  have e2 : MI X (d + 1) 346 [.inl i, .inl 143, .inr (.inr (-10))] S0 (ov g) = some (i, S0, ov g) := by
    rw [e_346, if_neg (by omega), if_pos h2]
  have e3 : MI X (d + 2) 344 [.inl i, .inl 143] S0 (ov g) = some (0, S0, ov g) := by
    rw [e_344, oC_of e2]
  have e4 : aln X S0 (-9 + 2) = some 143 := rfl
  have c : am_i2c (am_and (ksP i) 255) = ksP i := by
    rw [am_and_255]
    unfold am_i2c
    omega
  have e5 : MI X (d + 3) 345 [.inr (.inr (-9 + 2)), .inl i] S0 (ov g) = some (ksP i, S0, ov g) := by
    rw [e_345, e4, oK_some, oC_of e3, show (-9 + 2 : Int) = -7 from rfl, al_keys g h1 h2, oK_some, c, if_pos k3]
  rw [e_341, if_pos (Or.inr rfl), oC_of e1, if_neg (by omega), if_pos (Or.inr rfl), oC_of e5, if_pos k3]
/-- the letters agree from i on, to e -/
def eqL (p r : Int → Int) : Nat → Int → Bool
  | 0, _ => true
  | k + 1, i => bif decide (p i = r i) then eqL p r k (i + 1) else false
theorem eqL_iff (p r : Int → Int) : ∀ (k : Nat) (i : Int), eqL p r k i = true ↔ ∀ j, i ≤ j → j < i + k → p j = r j
  | 0, i => ⟨fun _ j a b => by omega, fun _ => rfl⟩
  | k + 1, i => by
    unfold eqL
    by_cases h : p i = r i
    · rw [decide_eq_true h, cond_true, eqL_iff p r k (i + 1)]
      refine ⟨fun z j a b => ?_, fun z j a b => z j (by omega) (by omega)⟩
      by_cases w : j = i
      · rw [w]; exact h
      · exact z j (by omega) (by omega)
    · rw [decide_eq_false h, cond_false]
      exact ⟨fun z => (by cases z), fun z => absurd (z i (by omega) (by omega)) h⟩
def kwE (t : Int → Int) (q L w : Int) : Bool := decide (ken w - kst w = L) && eqL ksP (fun j => t (q + j - kst w)) (ken w - kst w).toNat (kst w)
theorem m_220_l (hr : txR t n) (tm : Tm t n g) (hk : kdP t n q = 1) (ms : Ms t n g q) : ∀ (k : Nat) (w : Int), w + k = 26 → 0 ≤ w → EI X (d + 5) 220 14 [some (.inr (.inr 143)), some (.inr (.inr (-9))), some (.inl w), some (.inl (kst w)), none, none, none] [] S0 (ov g) = some (ff (kwE t q (enP t n q - q)) k w, S0, ov g) := by
  obtain ⟨-, h13, h14, -, q0, q1⟩ := id ms
  have n9 := hr.2.1
  have qn : ¬ n ≤ q := fun z => by rw [kdP_0 z] at hk; omega
  have hl : isLt (t q) := by
    unfold kdP at hk
    rw [if_neg qn] at hk
    by_cases h : isLt (t q)
    · exact h
    · rw [if_neg h] at hk
      exfalso
      (repeat' split at hk) <;> omega
  have ee : enP t n q = ewP t n q := by unfold enP; rw [if_neg qn, if_pos hl]
  have eb := ew_b t (n := n) (p := q) (by omega) hl
  rw [← ee] at eb
  intro k
  induction k with
  | zero =>
    intro w hk' w0
    have ew : w = 26 := by omega
    subst ew
    rw [e_220_14, if_pos (Or.inr rfl), oC_of (m_340 _ _), if_neg (by decide)]
    rfl
  | succ k ih =>
    intro w hk' w0
    have ewn : ((w.toNat : Nat) : Int) = w := by omega
    have k1 := kw_1 ⟨w.toNat, by omega⟩
    simp only [ewn] at k1
    obtain ⟨k32, ks1, kse, kl8, ke, kv⟩ := k1
    have kl : ∀ j, kst w ≤ j → j < ken w → 97 ≤ ksP j ∧ ksP j ≤ 122 := fun j a b => by
      have := kw_2 ⟨w.toNat, by omega⟩ ⟨(j - kst w).toNat, by omega⟩
      simp only [ewn, show (((j - kst w).toNat : Nat) : Int) = j - kst w by omega, show kst w + (j - kst w) = j by omega] at this
      exact this b
    have nx : kst (w + 1) = ken w + 1 := by show kst (w + 1) = kst (w + 1) - 1 + 1; omega
    have ihn := ih (w + 1) (by omega) (by omega)
    rw [nx] at ihn
    -- the letters, one after another
    have l68 : ∀ (m : Nat) (i : Int), i + m = ken w → kst w ≤ i → ken w - kst w = enP t n q - q → EI X (d + 5) 220 68 [some (.inr (.inr 143)), some (.inr (.inr (-9))), some (.inl w), some (.inl (kst w)), some (.inl (ken w)), some (.inl 1), some (.inl i)] [] S0 (ov g) = (if eqL ksP (fun j => t (q + j - kst w)) m i = true then some (w, S0, ov g) else some (ff (kwE t q (enP t n q - q)) k (w + 1), S0, ov g)) := by
      intro m
      induction m with
      | zero =>
        intro i hm hi hL
        rw [e_220_68, if_neg (by omega), if_neg (by omega)]
        exact (if_pos rfl).symm
      | succ m ihm =>
        intro i hm hi hL
        have hlt := eb.2.2.1 (q + i - kst w) (by omega) (by omega)
        obtain ⟨-, -, -, f4, -⟩ := mb_t hr (i := q + i - kst w) (by omega)
        have em := f4 (by omega) (by omega)
        rw [e_220_68, if_pos (by omega), if_neg (by omega), if_pos (Or.inr rfl), oC_of (m_341 g (by omega) (by omega))]
        simp only [↓G_mod, h13, ↓K_mod]
        rw [w32_id (x := q + i) (by omega) (by omega), w32_id (x := q + i - kst w) (by omega) (by omega), oC_of (m_215 tm n9 (i := q + i - kst w) (by omega)), em, w32_id (x := i + 1) (by omega) (by omega)]
        unfold eqL
        by_cases z : ksP i = t (q + i - kst w)
        · rw [if_pos z, decide_eq_true z, cond_true]
          exact ihm (i + 1) (by omega) (by omega) hL
        · rw [if_neg z, decide_eq_false z, cond_false, if_neg (by decide)]
          -- the next word
          have go : ∀ i, EI X (d + 5) 220 68 [some (.inr (.inr 143)), some (.inr (.inr (-9))), some (.inl w), some (.inl (kst w)), some (.inl (ken w)), some (.inl 0), some (.inl i)] [] S0 (ov g) = some (ff (kwE t q (enP t n q - q)) k (w + 1), S0, ov g) := fun i => by
            rw [e_220_68, w32_id (x := w + 1) (by omega) (by omega), w32_id (x := ken w + 1) (by omega) (by omega), ihn]
            simp only [↓reduceIte, ite_self]
          exact go (i + 1)
    have go : ∀ i, EI X (d + 5) 220 68 [some (.inr (.inr 143)), some (.inr (.inr (-9))), some (.inl w), some (.inl (kst w)), some (.inl (ken w)), some (.inl 0), some (.inl i)] [] S0 (ov g) = some (ff (kwE t q (enP t n q - q)) k (w + 1), S0, ov g) := fun i => by
      rw [e_220_68, w32_id (x := w + 1) (by omega) (by omega), w32_id (x := ken w + 1) (by omega) (by omega), ihn]
      simp only [↓reduceIte, ite_self]
    -- the end of the word
    have l25 : ∀ (m : Nat) (i : Int), i + m = ken w → kst w ≤ i → EI X (d + 5) 220 25 [some (.inr (.inr 143)), some (.inr (.inr (-9))), some (.inl w), some (.inl (kst w)), some (.inl i), none, none] [] S0 (ov g) = some (ff (kwE t q (enP t n q - q)) (k + 1) w, S0, ov g) := by
      intro m
      induction m with
      | zero =>
        intro i hm hi
        have ei : i = ken w := by omega
        rw [ei, e_220_25, if_pos (Or.inr rfl), oC_of (m_341 g (by omega) (by omega)), if_pos k32]
        simp only [↓G_mod, h13, h14]
        rw [w32_id (x := ken w - kst w) (by omega) (by omega), w32_id (x := enP t n q - q) (by omega) (by omega)]
        show _ = some (bif kwE t q (enP t n q - q) w then w else ff (kwE t q (enP t n q - q)) k (w + 1), S0, ov g)
        by_cases hL : ken w - kst w = enP t n q - q
        · rw [if_pos hL, l68 (ken w - kst w).toNat (kst w) (by omega) (by omega) hL]
          have e : kwE t q (enP t n q - q) w = eqL ksP (fun j => t (q + j - kst w)) (ken w - kst w).toNat (kst w) := by
            unfold kwE
            rw [decide_eq_true hL, Bool.true_and]
          rw [e]
          cases eqL ksP (fun j => t (q + j - kst w)) (ken w - kst w).toNat (kst w)
          · rw [if_neg (by decide)]; rfl
          · rw [if_pos rfl]; rfl
        · rw [if_neg hL, go]
          have e : kwE t q (enP t n q - q) w = false := by
            unfold kwE
            rw [decide_eq_false hL, Bool.false_and]
          rw [e]
          rfl
      | succ m ihm =>
        intro i hm hi
        have := kl i hi (by omega)
        rw [e_220_25, if_pos (Or.inr rfl), oC_of (m_341 g (by omega) (by omega)), if_neg (by omega), w32_id (x := i + 1) (by omega) (by omega)]
        exact ihm (i + 1) (by omega) (by omega)
    rw [e_220_14, if_pos (Or.inr rfl), oC_of (m_340 _ _), if_pos (by omega)]
    exact l25 (ken w - kst w).toNat (kst w) (by omega) (by omega)
theorem m_220 (hr : txR t n) (tm : Tm t n g) (ms : Ms t n g q) : MI X (d + 5) 220 [.inr (.inr 143), .inr (.inr (-9))] S0 (ov g) = some (pmP (wdP t n q), S0, ov g) := by
  obtain ⟨h12, h13, h14, -, q0, q1⟩ := id ms
  have k2 : mkP (kdP t n q) = 2 ↔ kdP t n q = 1 := by unfold mkP; (repeat' split) <;> omega
  rw [e_220]
  simp only [↓G_mod, h12]
  unfold wdP
  by_cases hk : kdP t n q = 1
  case neg => rw [if_neg (fun z => hk (k2.1 z)), if_neg hk]; rfl
  rw [if_pos (k2.2 hk), if_pos hk]
  have qn : ¬ n ≤ q := fun z => by rw [kdP_0 z] at hk; omega
  have hl : isLt (t q) := by
    unfold kdP at hk
    rw [if_neg qn] at hk
    by_cases h : isLt (t q)
    · exact h
    · rw [if_neg h] at hk
      exfalso
      (repeat' split at hk) <;> omega
  have ee : enP t n q = ewP t n q := by unfold enP; rw [if_neg qn, if_pos hl]
  have eb := ew_b t (n := n) (p := q) (by omega) hl
  rw [← ee] at eb
  have l := m_220_l (X := X) (d := d) hr tm hk ms 26 0 (by omega) (by omega)
  rw [show kst 0 = 1 from rfl] at l
  rw [l, ← wd_pm]
  congr 2
  refine ff_cg 26 0 (fun w w0 w1 => ?_)
  have ewn : ((w.toNat : Nat) : Int) = w := by omega
  have k1 := kw_1 ⟨w.toNat, by omega⟩
  simp only [ewn] at k1
  obtain ⟨k32, ks1, kse, kl8, ke, kv⟩ := k1
  have kl : ∀ j, kst w ≤ j → j < ken w → 97 ≤ ksP j ∧ ksP j ≤ 122 := fun j a b => by
    have := kw_2 ⟨w.toNat, by omega⟩ ⟨(j - kst w).toNat, by omega⟩
    simp only [ewn, show (((j - kst w).toNat : Nat) : Int) = j - kst w by omega, show kst w + (j - kst w) = j by omega] at this
    exact this b
  have va := va_1 hk
  have iff : kwE t q (enP t n q - q) w = true ↔ rsv (cmP w) = vaP t n q := by
    unfold kwE
    rw [Bool.and_eq_true, decide_eq_true_eq, eqL_iff, ← kv]
    constructor
    · rintro ⟨a, c⟩
      rw [va, if_pos (by omega)]
      congr 1
      unfold wl
      rw [show (enP t n q - q).toNat = (ken w - kst w).toNat by omega]
      refine List.map_congr_left (fun i hi => ?_)
      rw [List.mem_range] at hi
      have := c (kst w + i) (by omega) (by omega)
      rw [this]
      congr 1
      omega
    · intro h
      have mk : ∀ x ∈ wl ksP (kst w) (ken w), 1 ≤ x ∧ x < 256 := fun x hx => by
        obtain ⟨j, j1, j2, j3⟩ := wl_mem hx
        have := kl j j1 j2
        omega
      by_cases z : enP t n q - q ≤ 8
      · rw [va, if_pos z] at h
        have mq : ∀ x ∈ wl t q (enP t n q), 1 ≤ x ∧ x < 256 := fun x hx => by
          obtain ⟨j, j1, j2, j3⟩ := wl_mem hx
          have := eb.2.2.1 j j1 j2
          omega
        have e := vl_inj _ _ _ rfl mk mq h
        have ln := congrArg List.length e
        rw [wl_len, wl_len] at ln
        refine ⟨by omega, fun j a c => ?_⟩
        have x1 := wl_get ksP (kst w) (ken w) (j - kst w).toNat (by omega)
        have x2 := wl_get t q (enP t n q) (j - kst w).toNat (by omega)
        rw [e, x2] at x1
        rw [show kst w + (((j - kst w).toNat : Nat) : Int) = j by omega, show q + (((j - kst w).toNat : Nat) : Int) = q + j - kst w by omega] at x1
        exact x1.symm
      · rw [va, if_neg z] at h
        exfalso
        have nz := vl_inj 0 [] (wl ksP (kst w) (ken w)) rfl (fun x hx => by cases hx) mk (by rw [h]; rfl)
        have ln := congrArg List.length nz
        rw [wl_len] at ln
        have : ([] : List Int).length = 0 := rfl
        omega
  by_cases h : rsv (cmP w) = vaP t n q
  · rw [decide_eq_true h]; exact iff.2 h
  · rw [decide_eq_false h]
    cases e : kwE t q (enP t n q - q) w
    · rfl
    · exact absurd (iff.1 e) h
end
