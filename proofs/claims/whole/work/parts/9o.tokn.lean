/-! TOKENS, the model: ahead; names; what fails -/
section
variable {X : Xs} {d : Nat} {g : Mem} {t : Int → Int} {n q : Int}
theorem m_218_s (hr : txR t n) : ∀ (k : Nat) (i : Int) (g : Mem), (n - i).toNat = k → 0 ≤ i → i ≤ n → Tm t n g → rd g 143 14 = i → Ok (fun _ g' => Ms t n g' (skP t n i) ∧ FMt g g') (EI X (d + 1) 218 0 [some (.inr (.inr 143)), none] [] S0 (ov g)) := by
  have n9 := hr.2.1
  -- no blank at i
  have nob : ∀ (i : Int) (g : Mem), 0 ≤ i → i ≤ n → Tm t n g → rd g 143 14 = i → ¬ (i < n ∧ isBl (t i)) → Ok (fun _ g' => Ms t n g' (skP t n i) ∧ FMt g g') (EI X (d + 1) 218 0 [some (.inr (.inr 143)), none] [] S0 (ov g)) := fun i g i0 i1 tm h14 hb => by
    obtain ⟨f1, f2, f3, f4, f5, f6⟩ := mb_t hr i0
    have nb : ¬ (mbP t n i = 32 ∨ mbP t n i = 10) := fun z => hb (f3.1 z)
    have tm1 : Tm t n (wr g 143 13 i) := Tm_FM tm (FMt_wr _ _ (by omega))
    rw [e_218_0, sk_s, if_neg hb]
    have h14' : rd (wr g 143 13 i) 143 14 = i := by rw [rd_wr_ix _ _ (by omega) (by omega) (by omega)]; exact h14
    simp only [↓G_mod, h14, ↓K_mod, ↓oC_of (m_215 tm n9 i0)]
    rw [if_neg (show ¬ mbP t n i = 32 from fun z => nb (Or.inl z))]
    rw [if_neg (show ¬ mbP t n i = 10 from fun z => nb (Or.inr z))]
    simp only [↓P_mod, ↓G_mod, h14, h14', ↓K_mod, ↓oC_of (m_215 tm1 n9 i0)]
    generalize hg1 : wr (wr g 143 13 i) 143 15 (mbP t n i) = g1
    have fm1 : FMt g g1 := by subst hg1; exact FMt_tr (FMt_wr _ _ (by omega)) (FMt_wr _ _ (by omega))
    have e13 : rd g1 143 13 = i := by subst hg1; simp (disch := omega) only [rd_wr_ix, rd_wr_eq]
    have e14 : rd g1 143 14 = i := by subst hg1; simp (disch := omega) only [rd_wr_ix]; exact h14
    have e15 : rd g1 143 15 = mbP t n i := by subst hg1; exact rd_wr_eq _ _ _ _
    clear hg1
    have tg1 := Tm_FM tm fm1
    by_cases hin : i < n
    case neg =>
      rw [if_pos (show mbP t n i = -1 from f5.2 hin)]
      have kz : kdP t n i = 0 := kdP_0 (by omega)
      refine Ok_some ⟨⟨?_, ?_, ?_, fun z => by omega, i0, i1⟩, FMt_tr fm1 (FMt_wr _ _ (by omega))⟩
      · rw [rd_wr_eq, kz]; rfl
      · rw [rd_wr_ix _ _ (by omega) (by omega) (by omega)]; exact e13
      · rw [rd_wr_ix _ _ (by omega) (by omega) (by omega), e14]
        show i = enP t n i
        unfold enP; rw [if_pos (by omega)]; omega
    rw [if_neg (show ¬ mbP t n i = -1 from fun z => f5.1 z hin)]
    rw [oC_of (m_216 _ _ _), if_b2i]
    have kq : kdP t n i = (if isLt (t i) then 1 else if isDg (t i) then (if edP t n i - i ≤ 4 then 2 else 4) else if isSg (t i) then 3 else 4) := by unfold kdP; rw [if_neg (by omega)]
    have eq' : enP t n i = (if isLt (t i) then ewP t n i else if isDg (t i) then edP t n i else i + 1) := by unfold enP; rw [if_neg (by omega)]
    have vq : vaP t n i = (if isLt (t i) then (if ewP t n i - i ≤ 8 then vl (wl t i (ewP t n i)) else 0) else if isDg (t i) ∧ edP t n i - i ≤ 4 then nl (wl t i (edP t n i)) else t i) := by unfold vaP; rw [if_neg (by omega)]
    by_cases hl : isLt (t i)
    · rw [if_pos (show isLt (mbP t n i) from f1.2 ⟨hin, hl⟩)]
      rw [if_pos hl] at kq eq'
      refine Ok_mono (m_218_w hr _ i g1 rfl i0 i1 tg1 e14) ?_
      rintro v g' ⟨a, b, c⟩
      refine ⟨⟨?_, ?_, ?_, fun z => by omega, i0, i1⟩, FMt_tr fm1 (fun c' j x y z => c c' j x y (by omega))⟩
      · rw [b, kq]; rfl
      · rw [c _ _ (by omega) (by omega) (by omega)]; exact e13
      · rw [a, eq']
    rw [if_neg (show ¬ isLt (mbP t n i) from fun z => hl (f1.1 z).2), oC_of (m_217 _ _ _), if_b2i]
    rw [if_neg hl] at kq eq' vq
    by_cases hd : isDg (t i)
    · rw [if_pos (show isDg (mbP t n i) from f2.2 ⟨hin, hd⟩)]
      rw [if_pos hd] at kq eq'
      simp only [↓P_mod]
      refine Ok_mono (m_218_d hr i0 _ i (wr g1 143 15 0) rfl (by omega) i1 (fun j x y => by omega) (Tm_FM tg1 (FMt_wr _ _ (by omega))) ?_ ?_ ?_ ?_ (fun z => ?_)) ?_
      · rw [rd_wr_ix _ _ (by omega) (by omega) (by omega)]; exact e14
      · rw [rd_wr_ix _ _ (by omega) (by omega) (by omega)]; exact e13
      · rw [rd_wr_eq]; omega
      · rw [rd_wr_eq]; omega
      · rw [rd_wr_eq, wl_0]; rfl
      · rintro v g' ⟨a, b, c, e⟩
        refine ⟨⟨?_, ?_, ?_, fun z => ?_, i0, i1⟩, FMt_tr (FMt_tr fm1 (FMt_wr _ _ (by omega))) (fun c' j x y z => e c' j x y (by omega))⟩
        · rw [b, kq]
          by_cases w : edP t n i - i ≤ 4
          · rw [if_pos w, if_pos w]; rfl
          · rw [if_neg w, if_neg w]; rfl
        · rw [e _ _ (by omega) (by omega) (by omega), rd_wr_ix _ _ (by omega) (by omega) (by omega)]; exact e13
        · rw [a, eq']
        · have w : edP t n i - i ≤ 4 := by
            by_cases w : edP t n i - i ≤ 4
            · exact w
            · rw [if_neg w] at kq; omega
          rw [c w, vq, if_pos ⟨hd, w⟩]
    rw [if_neg (show ¬ isDg (mbP t n i) from fun z => hd (f2.1 z).2)]
    rw [if_neg hd] at kq eq'
    rw [if_neg (fun z => hd z.1)] at vq
    simp only [↓G_mod, e14, w32_id (x := i + 1) (by omega) (by omega), ↓P_mod]
    have fin : ∀ x, x = mkP (kdP t n i) → Ok (fun _ g' => Ms t n g' i ∧ FMt g g') (some (0, S0, ov (wr (wr g1 143 14 (i + 1)) 143 12 x))) := fun x hx => by
      refine Ok_some ⟨⟨?_, ?_, ?_, fun z => ?_, i0, i1⟩, FMt_tr fm1 (FMt_tr (FMt_wr _ _ (by omega)) (FMt_wr _ _ (by omega)))⟩
      · rw [rd_wr_eq]; exact hx
      · rw [rd_wr_ix _ _ (by omega) (by omega) (by omega), rd_wr_ix _ _ (by omega) (by omega) (by omega)]; exact e13
      · rw [rd_wr_ix _ _ (by omega) (by omega) (by omega), rd_wr_eq]; exact eq'.symm
      · rw [rd_wr_ix _ _ (by omega) (by omega) (by omega), rd_wr_ix _ _ (by omega) (by omega) (by omega), e15, vq]
        refine f4 hin ?_
        by_cases w : isSg (t i)
        · omega
        · rw [if_neg w] at kq; omega
    have s6 := f6 hin
    have m3 : mkP 3 = 4 := rfl
    have m4 : mkP 4 = 1 := rfl
    by_cases hs : isSg (t i)
    · have y := s6.2 hs
      rw [if_pos hs] at kq
      have g4 := fin 4 (by rw [kq]; rfl)
      have hc : mbP t n i = 59 ∨ mbP t n i = 60 ∨ mbP t n i = 62 ∨ mbP t n i = 61 := by omega
      rcases hc with w | w | w | w <;> simp (disch := omega) only [w, ↓if_pos, ↓if_neg] <;> exact g4
    · have y : ¬ isSg (mbP t n i) := fun z => hs (s6.1 z)
      rw [if_neg hs] at kq
      rw [if_neg (show ¬ mbP t n i = 59 by omega), if_neg (show ¬ mbP t n i = 60 by omega), if_neg (show ¬ mbP t n i = 62 by omega), if_neg (show ¬ mbP t n i = 61 by omega)]
      exact fin 1 (by rw [kq]; rfl)
  intro k
  induction k with
  | zero => intro i g hk i0 i1 tm h14; exact nob i g i0 i1 tm h14 (by omega)
  | succ k ih =>
    intro i g hk i0 i1 tm h14
    by_cases hb : i < n ∧ isBl (t i)
    case neg => exact nob i g i0 i1 tm h14 hb
    obtain ⟨-, -, f3, -⟩ := mb_t hr i0
    have mb := f3.2 hb
    have nx := ih (i + 1) (wr g 143 14 (i + 1)) (by omega) (by omega) (by omega) (Tm_FM tm (FMt_wr _ _ (by omega))) (rd_wr_eq _ _ _ _)
    have nx' := Ok_mono nx (fun _ g' (h : Ms t n g' (skP t n (i + 1)) ∧ FMt _ g') => (⟨h.1, FMt_tr (FMt_wr g (i + 1) (by omega)) h.2⟩ : Ms t n g' (skP t n (i + 1)) ∧ FMt g g'))
    rw [e_218_0, sk_s, if_pos hb]
    simp only [↓G_mod, h14, ↓K_mod, ↓oC_of (m_215 tm n9 i0)]
    have w1 := w32_id (x := i + 1) (by omega) (by omega)
    by_cases w : mbP t n i = 32
    · rw [if_pos w, w1]
      simp only [↓P_mod]
      exact nx'
    · rw [if_neg w]
      rw [if_pos (show mbP t n i = 10 by omega), w1]
      simp only [↓P_mod]
      exact nx'
theorem m_218 (hr : txR t n) {p : Int} (p0 : 0 ≤ p) (p1 : p ≤ n) (tm : Tm t n g) (h14 : rd g 143 14 = p) : Ok (fun _ g' => Ms t n g' (skP t n p) ∧ FMt g g') (MI X (d + 1) 218 [.inr (.inr 143)] S0 (ov g)) := by
  have q := m_218_s (X := X) (d := d) hr _ p g rfl p0 p1 tm h14
  rw [e_218_0] at q
  rw [e_218]
  exact q
theorem m_219 (ms : Ms t n g q) (c : Int) : MI X d 219 [.inr (.inr 143), .inl c] S0 (ov g) = some (b2i (kdP t n q = 3 ∧ vaP t n q = c), S0, ov g) := by
  obtain ⟨a, -, -, e, -, -⟩ := ms
  rw [e_219]
  simp only [↓G_mod, a]
  have k4 : mkP (kdP t n q) = 4 ↔ kdP t n q = 3 := by unfold mkP; (repeat' split) <;> omega
  unfold b2i
  by_cases h : kdP t n q = 3
  · rw [if_pos (k4.2 h), e (Or.inr h)]
    by_cases w : vaP t n q = c
    · rw [if_pos w, if_pos ⟨h, w⟩]
    · rw [if_neg w, if_neg (fun z => w z.2)]
  · rw [if_neg (fun z => h (k4.1 z)), if_neg (fun z => h z.1)]
/-- nothing but the TOKEN ahead, the FAULT is other -/
def FNt (g g' : Mem) : Prop := ∀ c i, 0 ≤ c → 0 ≤ i → (c ≠ 143 ∨ i < 12 ∨ 18 < i ∨ i = 16) → rd g' c i = rd g c i
theorem FNt_tr {g g1 g2 : Mem} (h1 : FNt g g1) (h2 : FNt g1 g2) : FNt g g2 := fun c i a b e => (h2 c i a b e).trans (h1 c i a b e)
theorem FNt_FMt {g g1 : Mem} (h1 : FMt g g1) : FNt g g1 := fun c i a b e => h1 c i a b (by omega)
/-- a FAULT is told -/
def Mf (g : Mem) (c p : Int) : Prop := rd g 143 18 = c ∧ rd g 143 17 = p ∧ 0 < c ∧ c < 100
theorem m_221 (ms : Ms t n g q) (h18 : rd g 143 18 = 0) (why : Int) (hw : 0 < why ∧ why < 100 := by decide) : Ok (fun v g' => v = 0 ∧ Mf g' (fcP t n q why) q ∧ FNt g g') (MI X d 221 [.inr (.inr 143), .inl why] S0 (ov g)) := by
  obtain ⟨a, b, -⟩ := ms
  rw [e_221]
  simp only [↓G_mod, a, h18, ↓reduceIte]
  have k4 : mkP (kdP t n q) = 1 ↔ kdP t n q = 4 := by unfold mkP; (repeat' split) <;> omega
  have fr : ∀ x y, FNt g (wr (wr g 143 18 x) 143 17 y) := fun x y c i c0 i0 h => by
    by_cases z : c = 143
    · subst z; rw [rd_wr_ix _ _ (by omega) i0 (by omega), rd_wr_ix _ _ (by omega) i0 (by omega)]
    · rw [rd_wr_ne _ _ _ _ (by omega) c0 z, rd_wr_ne _ _ _ _ (by omega) c0 z]
  unfold fcP
  by_cases h : kdP t n q = 4
  · rw [if_pos (k4.2 h), if_pos h]
    simp (disch := omega) only [↓P_mod, ↓G_mod, rd_wr_ix, b]
    exact Ok_some ⟨rfl, ⟨by simp (disch := omega) only [rd_wr_ix, rd_wr_eq], rd_wr_eq _ _ _ _, by omega, by omega⟩, fr _ _⟩
  · rw [if_neg (fun z => h (k4.1 z)), if_neg h]
    simp (disch := omega) only [↓P_mod, ↓G_mod, rd_wr_ix, b]
    exact Ok_some ⟨rfl, ⟨by simp (disch := omega) only [rd_wr_ix, rd_wr_eq], rd_wr_eq _ _ _ _, by omega, by omega⟩, fr _ _⟩
theorem am_lor_8' (a x : Int) (h0 : 0 ≤ a) (h1 : a < 36028797018963968) (x0 : 0 ≤ x) (x1 : x < 256) : am_lor (am_lshl a 8) x = a * 256 + x := by
  rw [am_lshl_8 a h0 h1, am_lor_8 a x h0 h1 x0 x1]
theorem m_227_l (hr : txR t n) (tm : Tm t n g) (hk : kdP t n q = 1) (ms : Ms t n g q) (l8 : enP t n q - q ≤ 8) : ∀ (k : Nat) (i : Int), i + k = enP t n q → q ≤ i → EI X (d + 1) 227 7 [some (.inr (.inr 143)), some (.inr (.inl (vl (wl t q i)))), none, some (.inl i)] [] S0 (ov g) = some (vl (wl t q (enP t n q)), S0, ov g) := by
  obtain ⟨-, -, h14, -, q0, q1⟩ := ms
  have n9 := hr.2.1
  have qn : ¬ n ≤ q := fun z => by rw [kdP_0 z] at hk; omega
  have hl : isLt (t q) := by
    unfold kdP at hk
    rw [if_neg qn] at hk
    by_cases h : isLt (t q)
    · exact h
    · rw [if_neg h] at hk
      exfalso
      (repeat' split at hk) <;> omega
  have ee : enP t n q = ewP t n q := by unfold enP; rw [if_neg qn, if_pos hl]
  have eb := ew_b t (n := n) (p := q) (by omega) hl
  intro k
  induction k with
  | zero =>
    intro i hk' qi
    have ei : i = enP t n q := by omega
    rw [e_227_7]
    simp (disch := omega) only [↓G_mod, h14, ↓if_neg]
    rw [ei]
  | succ k ih =>
    intro i hk' qi
    rw [e_227_7]
    have hi := eb.2.2.1 i qi (by omega)
    obtain ⟨-, -, -, f4, -⟩ := mb_t hr (i := i) (by omega)
    have em := f4 (by omega) (by omega)
    simp (disch := omega) only [↓G_mod, h14, ↓if_pos, ↓K_mod, ↓oC_of (m_215 tm n9 (i := i) (by omega)), em, w32_id]
    have bv := vl_bn _ _ (wl_len t q i) (fun y hy => by
      obtain ⟨j, j1, j2, j3⟩ := wl_mem hy
      have := eb.2.2.1 j j1 (by omega)
      omega)
    have b7 : bnV (i - q).toNat ≤ 36028797018963968 := bn_7 ⟨(i - q).toNat, by omega⟩
    rw [am_lor_8' _ _ bv.1 (by omega) (by omega) (by omega), ← vl_s, ← wl_s t qi]
    exact ih (i + 1) (by omega) (by omega)
theorem va_1 (hk : kdP t n q = 1) : vaP t n q = if enP t n q - q ≤ 8 then vl (wl t q (enP t n q)) else 0 := by
  have qn : ¬ n ≤ q := fun z => by rw [kdP_0 z] at hk; omega
  have hl : isLt (t q) := by
    unfold kdP at hk
    rw [if_neg qn] at hk
    by_cases h : isLt (t q)
    · exact h
    · rw [if_neg h] at hk
      exfalso
      (repeat' split at hk) <;> omega
  have ee : enP t n q = ewP t n q := by unfold enP; rw [if_neg qn, if_pos hl]
  unfold vaP
  rw [if_neg qn, if_pos hl, ee]
theorem m_227 (hr : txR t n) (tm : Tm t n g) (hk : kdP t n q = 1) (ms : Ms t n g q) (l8 : enP t n q - q ≤ 8) : MI X (d + 1) 227 [.inr (.inr 143)] S0 (ov g) = some (vaP t n q, S0, ov g) := by
  rw [va_1 hk, if_pos l8, e_227]
  have eb : q < enP t n q := by
    have qn : ¬ n ≤ q := fun z => by rw [kdP_0 z] at hk; omega
    exact (enP_b t qn).1
  have h13 := ms.2.1
  simp only [↓G_mod, h13]
  have q' := m_227_l (X := X) (d := d) hr tm hk ms l8 (enP t n q - q).toNat q (by omega) (by omega)
  rw [wl_0] at q'
  exact q'
end
