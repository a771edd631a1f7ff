/-! TOKENS, the model: one ahead -/
def Tm (t : Int → Int) (n : Int) (g : Mem) : Prop := rd g 143 11 = n ∧ (∀ i, 0 ≤ i → i < n → rd g 150 i = t i)
def mbP (t : Int → Int) (n i : Int) : Int := if i < n then (t i) % 256 else -1
def mkP (k : Int) : Int := if k = 1 then 2 else if k = 2 then 3 else if k = 3 then 4 else if k = 4 then 1 else 0
/-- the TOKEN at q is the one ahead of the model -/
def Ms (t : Int → Int) (n : Int) (g : Mem) (q : Int) : Prop := rd g 143 12 = mkP (kdP t n q) ∧ rd g 143 13 = q ∧ rd g 143 14 = enP t n q ∧ ((kdP t n q = 2 ∨ kdP t n q = 3) → rd g 143 15 = vaP t n q) ∧ 0 ≤ q ∧ q ≤ n
def FMt (g g' : Mem) : Prop := ∀ c i, 0 ≤ c → 0 ≤ i → (c ≠ 143 ∨ i < 12 ∨ 15 < i) → rd g' c i = rd g c i
theorem FMt_tr {g g1 g2 : Mem} (h1 : FMt g g1) (h2 : FMt g1 g2) : FMt g g2 := fun c i a b e => (h2 c i a b e).trans (h1 c i a b e)
theorem FMt_rf (g : Mem) : FMt g g := fun _ _ _ _ _ => rfl
theorem FMt_wr (g : Mem) {i : Int} (x : Int) (h : 12 ≤ i ∧ i ≤ 15) : FMt g (wr g 143 i x) := fun c j a b e => by
  by_cases z : c = 143
  · subst z; exact rd_wr_ix _ _ (by omega) b (by omega)
  · exact rd_wr_ne _ _ _ _ (by omega) a z
theorem Tm_FM {t : Int → Int} {n : Int} {g g' : Mem} (h : Tm t n g) (f : FMt g g') : Tm t n g' := ⟨(f _ _ (by omega) (by omega) (by omega)).trans h.1, fun i a b => (f _ _ (by omega) a (by omega)).trans (h.2 i a b)⟩
section
variable {X : Xs} {d : Nat} {g : Mem} {t : Int → Int} {n q : Int}
theorem m_215 (tm : Tm t n g) (n9 : n ≤ 900) {i : Int} (i0 : 0 ≤ i) : MI X d 215 [.inr (.inr 143), .inl i] S0 (ov g) = some (mbP t n i, S0, ov g) := by
  rw [e_215]
  unfold mbP
  by_cases h : i < n
  · simp (disch := omega) only [↓G_mod, tm.1, ↓if_pos, ↓al_150, tm.2 i i0 h, am_and_255]
  · simp (disch := omega) only [↓G_mod, tm.1, ↓if_neg]
theorem m_216 (c : Int) (S : Sh) (h : Mem) : MI X d 216 [.inl c] S h = some (b2i (isLt c), S, h) := by
  rw [e_216]; unfold b2i
  (repeat' split) <;> first | rfl | (exfalso; omega)
theorem m_217 (c : Int) (S : Sh) (h : Mem) : MI X d 217 [.inl c] S h = some (b2i (isDg c), S, h) := by
  rw [e_217]; unfold b2i
  (repeat' split) <;> first | rfl | (exfalso; omega)
theorem mb_t (hr : txR t n) {i : Int} (i0 : 0 ≤ i) : (isLt (mbP t n i) ↔ (i < n ∧ isLt (t i))) ∧ (isDg (mbP t n i) ↔ (i < n ∧ isDg (t i))) ∧ ((mbP t n i = 32 ∨ mbP t n i = 10) ↔ (i < n ∧ isBl (t i))) ∧ (i < n → 0 ≤ t i → mbP t n i = t i) ∧ (mbP t n i = -1 ↔ ¬ i < n) ∧ (i < n → (isSg (mbP t n i) ↔ isSg (t i))) := by
  unfold mbP
  by_cases h : i < n
  · have := hr.2.2 i i0 h
    rw [if_pos h]
    refine ⟨by omega, by omega, by omega, by omega, by omega, by omega⟩
  · rw [if_neg h]
    refine ⟨by omega, by omega, by omega, by omega, by omega, by omega⟩
theorem m_218_w (hr : txR t n) : ∀ (k : Nat) (i : Int) (g : Mem), (n - i).toNat = k → 0 ≤ i → i ≤ n → Tm t n g → rd g 143 14 = i → Ok (fun _ g' => rd g' 143 14 = ewP t n i ∧ rd g' 143 12 = 2 ∧ (∀ c j, 0 ≤ c → 0 ≤ j → (c ≠ 143 ∨ (j ≠ 14 ∧ j ≠ 12)) → rd g' c j = rd g c j)) (EI X (d + 1) 218 81 [some (.inr (.inr 143)), none] [] S0 (ov g)) := by
  have n9 := hr.2.1
  intro k
  induction k with
  | zero =>
    intro i g hk i0 i1 tm h14
    have ei : i = n := by omega
    subst ei
    obtain ⟨f1, -⟩ := mb_t hr i0
    rw [e_218_81, ew_s, if_neg (fun z => by omega)]
    simp only [↓G_mod, h14, ↓K_mod, ↓oC_of (m_215 tm n9 i0), ↓oC_of (m_216 _ _ _), ↓if_b2i]
    rw [if_neg (fun z => by have := f1.1 z; omega)]
    simp only [↓P_mod]
    refine Ok_some ⟨?_, rd_wr_eq _ _ _ _, fun c j a e h => ?_⟩
    · rw [rd_wr_ix _ _ (by omega) (by omega) (by omega)]; exact h14
    · by_cases z : c = 143
      · subst z; exact rd_wr_ix _ _ (by omega) e (by omega)
      · exact rd_wr_ne _ _ _ _ (by omega) a z
  | succ k ih =>
    intro i g hk i0 i1 tm h14
    obtain ⟨f1, -⟩ := mb_t hr i0
    rw [e_218_81, ew_s]
    simp only [↓G_mod, h14, ↓K_mod, ↓oC_of (m_215 tm n9 i0), ↓oC_of (m_216 _ _ _), ↓if_b2i]
    by_cases h : i < n ∧ isLt (t i)
    · rw [if_pos (f1.2 h), if_pos h]
      simp (disch := omega) only [↓P_mod, w32_id]
      refine Ok_mono (ih (i + 1) (wr g 143 14 (i + 1)) (by omega) (by omega) (by omega) (Tm_FM tm (FMt_wr _ _ (by omega))) (rd_wr_eq _ _ _ _)) ?_
      rintro v g' ⟨a, b, c⟩
      refine ⟨a, b, fun c' j x y z => (c c' j x y z).trans ?_⟩
      by_cases w : c' = 143
      · subst w; exact rd_wr_ix _ _ (by omega) y (by omega)
      · exact rd_wr_ne _ _ _ _ (by omega) x w
    · rw [if_neg (fun z => h (f1.1 z)), if_neg h]
      simp only [↓P_mod]
      refine Ok_some ⟨?_, rd_wr_eq _ _ _ _, fun c j a e h => ?_⟩
      · rw [rd_wr_ix _ _ (by omega) (by omega) (by omega)]; exact h14
      · by_cases z : c = 143
        · subst z; exact rd_wr_ix _ _ (by omega) e (by omega)
        · exact rd_wr_ne _ _ _ _ (by omega) a z
theorem m_218_d (hr : txR t n) {p : Int} (p0 : 0 ≤ p) : ∀ (k : Nat) (i : Int) (g : Mem), (n - i).toNat = k → p ≤ i → i ≤ n → (∀ j, p ≤ j → j < i → isDg (t j)) → Tm t n g → rd g 143 14 = i → rd g 143 13 = p → 0 ≤ rd g 143 15 → rd g 143 15 ≤ 100000 → (i - p ≤ 4 → rd g 143 15 = nl (wl t p i)) → Ok (fun _ g' => rd g' 143 14 = edP t n i ∧ rd g' 143 12 = (if edP t n i - p ≤ 4 then 3 else 1) ∧ (edP t n i - p ≤ 4 → rd g' 143 15 = nl (wl t p (edP t n i))) ∧ (∀ c j, 0 ≤ c → 0 ≤ j → (c ≠ 143 ∨ (j ≠ 14 ∧ j ≠ 12 ∧ j ≠ 15)) → rd g' c j = rd g c j)) (EI X (d + 1) 218 128 [some (.inr (.inr 143)), none] [] S0 (ov g)) := by
  have n9 := hr.2.1
  have fin : ∀ (x i : Int) (g : Mem), rd g 143 14 = i → (i - p ≤ 4 → rd g 143 15 = nl (wl t p i)) → Ok (fun _ g' => rd g' 143 14 = i ∧ rd g' 143 12 = x ∧ (i - p ≤ 4 → rd g' 143 15 = nl (wl t p i)) ∧ (∀ c j, 0 ≤ c → 0 ≤ j → (c ≠ 143 ∨ (j ≠ 14 ∧ j ≠ 12 ∧ j ≠ 15)) → rd g' c j = rd g c j)) (some (0, S0, ov (wr g 143 12 x))) := fun x i g h1 h2 => by
    refine Ok_some ⟨?_, rd_wr_eq _ _ _ _, fun z => ?_, fun c j a e h => ?_⟩
    · rw [rd_wr_ix _ _ (by omega) (by omega) (by omega)]; exact h1
    · rw [rd_wr_ix _ _ (by omega) (by omega) (by omega)]; exact h2 z
    · by_cases z : c = 143
      · subst z; exact rd_wr_ix _ _ (by omega) e (by omega)
      · exact rd_wr_ne _ _ _ _ (by omega) a z
  have fin2 : ∀ (i : Int) (g : Mem), p ≤ i → i ≤ n → rd g 143 14 = i → rd g 143 13 = p → (i - p ≤ 4 → rd g 143 15 = nl (wl t p i)) → Ok (fun _ g' => rd g' 143 14 = i ∧ rd g' 143 12 = (if i - p ≤ 4 then 3 else 1) ∧ (i - p ≤ 4 → rd g' 143 15 = nl (wl t p i)) ∧ (∀ c j, 0 ≤ c → 0 ≤ j → (c ≠ 143 ∨ (j ≠ 14 ∧ j ≠ 12 ∧ j ≠ 15)) → rd g' c j = rd g c j)) (oK (getf S0 (ov g) 11 143 14) none fun x4 => oK (getf S0 (ov g) 11 143 13) none fun x5 => if 4 < (w32 (x4 - x5)) then oK (putf S0 (ov g) 11 143 12 1) none fun h7 => some (0, S0, h7) else oK (putf S0 (ov g) 11 143 12 3) none fun h6 => some (0, S0, h6)) := fun i g i0 i1 h1 h3 h2 => by
    simp (disch := omega) only [↓G_mod, h1, h3, w32_id, ↓P_mod]
    by_cases z : 4 < i - p
    · rw [if_pos z]
      have q := fin 1 i g h1 h2
      rw [if_neg (show ¬ i - p ≤ 4 by omega)]
      exact q
    · rw [if_neg z]
      have q := fin 3 i g h1 h2
      rw [if_pos (show i - p ≤ 4 by omega)]
      exact q
  intro k
  induction k with
  | zero =>
    intro i g hk pi i1 hd tm h14 h13 a0 a1 hv
    have ei : i = n := by omega
    subst ei
    obtain ⟨-, f1, -⟩ := mb_t hr (i := i) (by omega)
    rw [e_218_128, ed_s, if_neg (fun z => by omega)]
    simp only [↓G_mod, h14, ↓K_mod, ↓oC_of (m_215 tm n9 (i := i) (by omega)), ↓oC_of (m_217 _ _ _), ↓if_b2i]
    rw [if_neg (show ¬ isDg (mbP t i i) from fun z => by have := f1.1 z; omega)]
    have q := fin2 i g pi i1 h14 h13 hv
    simp only [↓G_mod, h14] at q
    exact q
  | succ k ih =>
    intro i g hk pi i1 hd tm h14 h13 a0 a1 hv
    obtain ⟨-, f1, -, f4, -⟩ := mb_t hr (i := i) (by omega)
    rw [e_218_128, ed_s]
    simp only [↓G_mod, h14, ↓K_mod, ↓oC_of (m_215 tm n9 (i := i) (by omega)), ↓oC_of (m_217 _ _ _), ↓if_b2i]
    by_cases h : i < n ∧ isDg (t i)
    · rw [if_pos (show isDg (mbP t n i) from f1.2 h), if_pos h]
      have em := f4 h.1 (by omega)
      have h2 := h.2
      rw [em]
      generalize hx : rd g 143 15 = x at a0 a1 hv
      simp (disch := omega) only [w32_id, ↓P_mod, ↓G_mod, rd_wr_ix, h14]
      have m0 : 0 ≤ am_min 100000 (10 * x + t i - 48) ∧ am_min 100000 (10 * x + t i - 48) ≤ 100000 ∧ (10 * x + t i - 48 ≤ 100000 → am_min 100000 (10 * x + t i - 48) = 10 * x + t i - 48) := by
        unfold am_min
        split <;> omega
      have b4 : i + 1 - p ≤ 4 → am_min 100000 (10 * x + t i - 48) = nl (wl t p (i + 1)) := fun z => by
        have q := hv (by omega)
        have bn := nl_bn _ _ (wl_len t p i) (by omega) (fun y hy => by
          obtain ⟨j, j1, j2, j3⟩ := wl_mem hy
          rw [j3]; exact hd j j1 j2)
        have pw : (10 : Int) ^ (i - p).toNat ≤ 1000 := by
          have hc : (i - p).toNat = 0 ∨ (i - p).toNat = 1 ∨ (i - p).toNat = 2 ∨ (i - p).toNat = 3 := by omega
          rcases hc with w | w | w | w <;> rw [w] <;> decide
        rw [wl_s t pi, nl_s, ← q, m0.2.2 (by omega)]
        omega
      refine Ok_mono (ih (i + 1) (wr (wr g 143 15 (am_min 100000 (10 * x + t i - 48))) 143 14 (i + 1)) (by omega) (by omega) (by omega) (fun j x y => ?_) (Tm_FM tm (FMt_tr (FMt_wr _ _ (by omega)) (FMt_wr _ _ (by omega)))) (rd_wr_eq _ _ _ _) ?_ ?_ ?_ ?_) ?_
      · by_cases z : j = i
        · rw [z]; exact h.2
        · exact hd j x (by omega)
      · rw [rd_wr_ix _ _ (by omega) (by omega) (by omega), rd_wr_ix _ _ (by omega) (by omega) (by omega)]; exact h13
      · rw [rd_wr_ix _ _ (by omega) (by omega) (by omega), rd_wr_eq]; exact m0.1
      · rw [rd_wr_ix _ _ (by omega) (by omega) (by omega), rd_wr_eq]; exact m0.2.1
      · intro z
        rw [rd_wr_ix _ _ (by omega) (by omega) (by omega), rd_wr_eq]; exact b4 z
      · rintro v g' ⟨a, b, c, e⟩
        refine ⟨a, b, c, fun c' j x' y z => (e c' j x' y z).trans ?_⟩
        by_cases w : c' = 143
        · subst w
          rw [rd_wr_ix _ _ (by omega) y (by omega), rd_wr_ix _ _ (by omega) y (by omega)]
        · rw [rd_wr_ne _ _ _ _ (by omega) x' w, rd_wr_ne _ _ _ _ (by omega) x' w]
    · rw [if_neg (show ¬ isDg (mbP t n i) from fun z => h (f1.1 z)), if_neg h]
      have q := fin2 i g pi i1 h14 h13 hv
      simp only [↓G_mod, h14] at q
      exact q
end
