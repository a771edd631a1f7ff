/-! TOKENS, the class: split ahead, then asked for -/
/-- the text that the class reads -/
def TXc (t : Int → Int) (n : Int) (g : Mem) : Prop := rd g 11 5 = n ∧ (∀ i, 0 ≤ i → i < n → rd g 10 i = t i)
abbrev txR (t : Int → Int) (n : Int) : Prop := 0 ≤ n ∧ n ≤ 900 ∧ ∀ i, 0 ≤ i → i < n → -128 ≤ t i ∧ t i < 128
theorem w16_id {x : Int} (h1 : -32768 ≤ x) (h2 : x < 32768) : w16 x = x := by
  unfold w16
  rw [Int.bmod_def]
  split <;> omega
theorem w8_id {x : Int} (h1 : -128 ≤ x) (h2 : x < 128) : w8 x = x := by
  unfold w8
  rw [Int.bmod_def]
  split <;> omega
/-- a TOKEN is laid at m -/
def tkW (g : Mem) (m p k v : Int) : Mem := wr (wr (wr (wr g 13 m p) 12 m k) 14 m v) 11 6 (m + 1)
theorem tkW_rd (g : Mem) {m : Int} (p k v : Int) (m0 : 0 ≤ m) : rd (tkW g m p k v) 13 m = p ∧ rd (tkW g m p k v) 12 m = k ∧ rd (tkW g m p k v) 14 m = v ∧ rd (tkW g m p k v) 11 6 = m + 1 ∧ (∀ c i, 0 ≤ c → 0 ≤ i → (c ≠ 11 ∨ i ≠ 6) → ((c ≠ 12 ∧ c ≠ 13 ∧ c ≠ 14) ∨ i ≠ m) → rd (tkW g m p k v) c i = rd g c i) := by
  unfold tkW
  refine ⟨?_, ?_, ?_, rd_wr_eq _ _ _ _, fun c i c0 i0 h1 h2 => ?_⟩
  · simp (disch := omega) only [rd_wr_ne, rd_wr_eq]
  · simp (disch := omega) only [rd_wr_ne, rd_wr_eq]
  · simp (disch := omega) only [rd_wr_ne, rd_wr_eq]
  · have e : ∀ (h : Mem) (a j x : Int), 0 ≤ a → 0 ≤ j → (c ≠ a ∨ i ≠ j) → rd (wr h a j x) c i = rd h c i := fun h a j x a0 j0 z => by
      by_cases w : c = a
      · subst w; exact rd_wr_ix _ _ j0 i0 (by omega)
      · exact rd_wr_ne _ _ _ _ a0 c0 w
    rw [e _ _ _ _ (by omega) (by omega) (by omega), e _ _ _ _ (by omega) m0 (by omega), e _ _ _ _ (by omega) m0 (by omega), e _ _ _ _ (by omega) m0 (by omega)]
section
variable {X : Xs} {d : Nat} {g : Mem} {t : Int → Int} {n : Int}
theorem c_100 (c : Int) (S : Sh) (h : Mem) : MI X d 100 [.inl c] S h = some (b2i (isLt c), S, h) := by
  rw [e_100]; unfold b2i
  (repeat' split) <;> first | rfl | (exfalso; omega)
theorem c_101 (c : Int) (S : Sh) (h : Mem) : MI X d 101 [.inl c] S h = some (b2i (isDg c), S, h) := by
  rw [e_101]; unfold b2i
  (repeat' split) <;> first | rfl | (exfalso; omega)
theorem c_99 (c : Int) (S : Sh) (h : Mem) : MI X d 99 [.inl c] S h = some (b2i (isBl c), S, h) := by
  rw [e_99]; unfold b2i
  (repeat' split) <;> first | rfl | (exfalso; omega)
theorem c_88_l (tx : TXc t n g) (n9 : n ≤ 900) : ∀ (k : Nat) (i : Int), (n - i).toNat = k → 0 ≤ i → EI X (d + 1) 88 2 [some (.inr (.inr 11)), none, some (.inl i)] [] S0 (ov g) = some (ewP t n i, S0, ov g) := by
  obtain ⟨t1, t2⟩ := tx
  intro k
  induction k with
  | zero =>
    intro i hk i0
    rw [e_88_2, ew_s, if_neg (fun z => by omega)]
    simp (disch := omega) only [↓G_tok, t1, ↓if_neg]
  | succ k ih =>
    intro i hk i0
    have e := t2 i i0 (by omega)
    rw [e_88_2, ew_s]
    simp (disch := omega) only [↓G_tok, t1, ↓if_pos, ↓al_10, e, ↓oC_of (c_100 _ _ _), ↓if_b2i]
    by_cases h : isLt (t i)
    · rw [if_pos h, if_pos ⟨by omega, h⟩, w32_id (by omega) (by omega)]
      exact ih (i + 1) (by omega) (by omega)
    · rw [if_neg h, if_neg (fun z => h z.2)]
theorem c_88 (tx : TXc t n g) (n9 : n ≤ 900) (p : Int) (p0 : 0 ≤ p) : MI X (d + 1) 88 [.inr (.inr 11), .inl p] S0 (ov g) = some (ewP t n p, S0, ov g) := by
  rw [e_88, c_88_l tx n9 _ p rfl p0]
theorem c_89_l (tx : TXc t n g) (n9 : n ≤ 900) : ∀ (k : Nat) (i : Int), (n - i).toNat = k → 0 ≤ i → EI X (d + 1) 89 2 [some (.inr (.inr 11)), none, some (.inl i)] [] S0 (ov g) = some (edP t n i, S0, ov g) := by
  obtain ⟨t1, t2⟩ := tx
  intro k
  induction k with
  | zero =>
    intro i hk i0
    rw [e_89_2, ed_s, if_neg (fun z => by omega)]
    simp (disch := omega) only [↓G_tok, t1, ↓if_neg]
  | succ k ih =>
    intro i hk i0
    have e := t2 i i0 (by omega)
    rw [e_89_2, ed_s]
    simp (disch := omega) only [↓G_tok, t1, ↓if_pos, ↓al_10, e, ↓oC_of (c_101 _ _ _), ↓if_b2i]
    by_cases h : isDg (t i)
    · rw [if_pos h, if_pos ⟨by omega, h⟩, w32_id (by omega) (by omega)]
      exact ih (i + 1) (by omega) (by omega)
    · rw [if_neg h, if_neg (fun z => h z.2)]
theorem c_89 (tx : TXc t n g) (n9 : n ≤ 900) (p : Int) (p0 : 0 ≤ p) : MI X (d + 1) 89 [.inr (.inr 11), .inl p] S0 (ov g) = some (edP t n p, S0, ov g) := by
  rw [e_89, c_89_l tx n9 _ p rfl p0]
theorem c_90_l (tx : TXc t n g) (n9 : n ≤ 900) {p e : Int} (p0 : 0 ≤ p) (en : e ≤ n) (l8 : e - p ≤ 8) (hl : ∀ j, p ≤ j → j < e → isLt (t j)) : ∀ (k : Nat) (i : Int), i + k = e → p ≤ i → EI X d 90 5 [some (.inr (.inr 11)), none, some (.inl e), some (.inr (.inl (vl (wl t p i)))), none, some (.inl i)] [] S0 (ov g) = some (vl (wl t p e), S0, ov g) := by
  obtain ⟨t1, t2⟩ := tx
  intro k
  induction k with
  | zero =>
    intro i hk pi
    rw [e_90_5, if_neg (by omega), show i = e by omega]
  | succ k ih =>
    intro i hk pi
    have ei := t2 i (by omega) (by omega)
    have li := hl i pi (by omega)
    have vb := vl_bn _ (wl t p i) rfl (fun x hx => by
      obtain ⟨j, a, b, rfl⟩ := wl_mem hx
      have := hl j a (by omega)
      omega)
    have b7 := bn_7 ⟨(wl t p i).length, by rw [wl_len]; omega⟩
    have b7 : bnV (wl t p i).length ≤ 36028797018963968 := b7
    rw [e_90_5, if_pos (by omega)]
    simp (disch := omega) only [↓G_tok, ↓al_10, ei, w32_id]
    rw [am_lshl_8 _ vb.1 (by omega), am_lor_8 _ _ vb.1 (by omega) (by omega) (by omega), ← vl_s, ← wl_s t pi]
    exact ih (i + 1) (by omega) (by omega)
theorem c_90 (tx : TXc t n g) (n9 : n ≤ 900) {p e : Int} (p0 : 0 ≤ p) (pe : p ≤ e) (en : e ≤ n) (l8 : e - p ≤ 8) (hl : ∀ j, p ≤ j → j < e → isLt (t j)) : MI X d 90 [.inr (.inr 11), .inl p, .inl e] S0 (ov g) = some (vl (wl t p e), S0, ov g) := by
  have q := c_90_l (X := X) (d := d) tx n9 p0 en l8 hl (e - p).toNat p (by omega) (by omega)
  rw [wl_0] at q
  rw [e_90]
  exact q
theorem c_91_l (tx : TXc t n g) (n9 : n ≤ 900) {p e : Int} (p0 : 0 ≤ p) (en : e ≤ n) (l4 : e - p ≤ 4) (hl : ∀ j, p ≤ j → j < e → isDg (t j)) : ∀ (k : Nat) (i : Int), i + k = e → p ≤ i → EI X d 91 5 [some (.inr (.inr 11)), none, some (.inl e), some (.inl (nl (wl t p i))), some (.inl i)] [] S0 (ov g) = some (nl (wl t p e), S0, ov g) := by
  obtain ⟨t1, t2⟩ := tx
  intro k
  induction k with
  | zero =>
    intro i hk pi
    rw [e_91_5, if_neg (by omega), show i = e by omega]
  | succ k ih =>
    intro i hk pi
    have ei := t2 i (by omega) (by omega)
    have li := hl i pi (by omega)
    have vb := nl_bn _ (wl t p i) rfl (by rw [wl_len]; omega) (fun x hx => by
      obtain ⟨j, a, b, rfl⟩ := wl_mem hx
      have := hl j a (by omega)
      omega)
    have h4 : (10 : Int) ^ (wl t p i).length ≤ 10000 := by
      have : ∀ m : Fin 5, (10 : Int) ^ m.val ≤ 10000 := by decide
      exact this ⟨(wl t p i).length, by rw [wl_len]; omega⟩
    rw [e_91_5, if_pos (by omega)]
    simp (disch := omega) only [↓G_tok, ↓al_10, ei, w32_id]
    rw [← nl_s, ← wl_s t pi]
    exact ih (i + 1) (by omega) (by omega)
theorem c_91 (tx : TXc t n g) (n9 : n ≤ 900) {p e : Int} (p0 : 0 ≤ p) (pe : p ≤ e) (en : e ≤ n) (l4 : e - p ≤ 4) (hl : ∀ j, p ≤ j → j < e → isDg (t j)) : MI X d 91 [.inr (.inr 11), .inl p, .inl e] S0 (ov g) = some (nl (wl t p e), S0, ov g) := by
  have q := c_91_l (X := X) (d := d) tx n9 p0 en l4 hl (e - p).toNat p (by omega) (by omega)
  rw [wl_0] at q
  rw [e_91]
  exact q
theorem TXc_fr {g' : Mem} (tx : TXc t n g) (f5 : rd g' 11 5 = rd g 11 5) (f : ∀ i, 0 ≤ i → rd g' 10 i = rd g 10 i) : TXc t n g' := ⟨f5.trans tx.1, fun i a b => (f i a).trans (tx.2 i a b)⟩
/-- one TOKEN is split off -/
theorem c_87 (tx : TXc t n g) (hr : txR t n) {p m : Int} (p0 : 0 ≤ p) (pn : p < n) (hm : rd g 11 6 = m) (m0 : 0 ≤ m) (m9 : m < 900) : MI X (d + 2) 87 [.inr (.inr 11), .inl p] S0 (ov g) = some (if kdP t n p = 4 then p else enP t n p, S0, ov (tkW g m p (kdP t n p) (vaP t n p))) := by
  obtain ⟨n0, n9, hr⟩ := hr
  have t1 := tx.1
  have ep := tx.2 p p0 pn
  have hn : ¬ n ≤ p := by omega
  have hc := hr p p0 pn
  have tx13 : TXc t n (wr g 13 m p) := TXc_fr tx (rd_wr_ne _ _ _ _ (by omega) (by omega) (by omega)) (fun i a => rd_wr_ne _ _ _ _ (by omega) (by omega) (by omega))
  have l1 : w8 1 = 1 := by decide
  have l2 : w8 2 = 2 := by decide
  have l3 : w8 3 = 3 := by decide
  have l4 : w8 4 = 4 := by decide
  have w16p : w16 (w16 p) = p := by rw [w16_id (x := p) (by omega) (by omega), w16_id (x := p) (by omega) (by omega)]
  have hm13 : rd (wr g 13 m p) 11 6 = m := by rw [rd_wr_ne _ _ _ _ (by omega) (by omega) (by omega)]; exact hm
  rw [e_87]
  simp (disch := omega) only [↓G_tok, ↓al_10, ep, ↓oC_of (c_100 _ _ _), ↓if_b2i]
  by_cases hL : isLt (t p)
  · -- a word
    obtain ⟨b1, b2, b3, b4⟩ := ew_b t pn hL
    have ek : kdP t n p = 1 := by unfold kdP; rw [if_neg hn, if_pos hL]
    have ee : enP t n p = ewP t n p := by unfold enP; rw [if_neg hn, if_pos hL]
    rw [if_pos hL, K_tok, oC_of (c_88 tx n9 p p0), if_neg (show ¬ t p = 59 by omega), if_neg (show ¬ t p = 60 by omega), if_neg (show ¬ t p = 62 by omega), if_neg (show ¬ t p = 61 by omega), e_87_70, ek, ee, if_neg (by decide)]
    simp (disch := omega) only [↓G_tok, hm, ↓as_13, w16p, ↓oC_of (c_100 _ _ _), ↓if_b2i]
    rw [if_pos hL]
    simp (disch := omega) only [↓G_tok, hm13, ↓as_12, l1, rd_wr_ne, w32_id]
    have tx12 : TXc t n (wr (wr g 13 m p) 12 m 1) := TXc_fr tx13 (rd_wr_ne _ _ _ _ (by omega) (by omega) (by omega)) (fun i a => rd_wr_ne _ _ _ _ (by omega) (by omega) (by omega))
    have fin : ∀ v, vaP t n p = v → EI X (d + 1 + 1) 87 126 [some (.inr (.inr 11)), some (.inl p), none, some (.inl (ewP t n p)), none] [.inr (.inl v), .inl m, .inr (.inr 14)] S0 (ov (wr (wr g 13 m p) 12 m 1)) = some (ewP t n p, S0, ov (tkW g m p 1 (vaP t n p))) := fun v hv => by
      rw [e_87_126, hv]
      simp (disch := omega) only [↓G_tok, ↓P_tok, ↓as_14, rd_wr_ne, rd_wr_eq, rd_wr_ix, hm, w32_id, Int.add_sub_cancel, ↓al_12, ↓if_neg]
      rfl
    by_cases h8 : 8 < ewP t n p - p
    · rw [if_pos h8]
      exact fin 0 (by unfold vaP; rw [if_neg hn, if_pos hL, if_neg (by omega)])
    · rw [if_neg h8, K_tok, oC_of (c_90 tx12 n9 p0 (by omega) b2 (by omega) b3)]
      exact fin _ (by unfold vaP; rw [if_neg hn, if_pos hL, if_pos (by omega)])
  rw [if_neg hL, oC_of (c_101 _ _ _), if_b2i]
  by_cases hD : isDg (t p)
  · -- a number
    obtain ⟨b1, b2, b3, b4⟩ := ed_b t pn hD
    have ee : enP t n p = edP t n p := by unfold enP; rw [if_neg hn, if_neg hL, if_pos hD]
    rw [if_pos hD, K_tok, oC_of (c_89 tx n9 p p0), if_neg (show ¬ t p = 59 by omega), if_neg (show ¬ t p = 60 by omega), if_neg (show ¬ t p = 62 by omega), if_neg (show ¬ t p = 61 by omega), e_87_70, ee]
    simp (disch := omega) only [↓G_tok, hm, ↓as_13, w16p, ↓oC_of (c_100 _ _ _), ↓oC_of (c_101 _ _ _), ↓if_b2i]
    rw [if_neg hL, if_pos hD, w32_id (x := edP t n p - p) (by omega) (by omega)]
    by_cases h4 : 4 < edP t n p - p
    · have ek : kdP t n p = 4 := by unfold kdP; rw [if_neg hn, if_neg hL, if_pos hD, if_neg (by omega)]
      have ev : vaP t n p = t p := by unfold vaP; rw [if_neg hn, if_neg hL, if_neg (fun z => by omega)]
      rw [if_pos h4, e_87_173, ek, ev, if_pos rfl]
      simp (disch := omega) only [↓G_tok, hm13, ↓reduceIte]
      rw [e_87_191]
      simp (disch := omega) only [↓G_tok, ↓P_tok, l4, ↓as_12, ↓as_14, rd_wr_ne, rd_wr_eq, rd_wr_ix, hm, w32_id, Int.add_sub_cancel, ↓al_12, ↓if_pos]
      rfl
    · have ek : kdP t n p = 2 := by unfold kdP; rw [if_neg hn, if_neg hL, if_pos hD, if_pos (by omega)]
      have ev : vaP t n p = nl (wl t p (edP t n p)) := by unfold vaP; rw [if_neg hn, if_neg hL, if_pos ⟨hD, by omega⟩]
      have tx12 : TXc t n (wr (wr g 13 m p) 12 m 2) := TXc_fr tx13 (rd_wr_ne _ _ _ _ (by omega) (by omega) (by omega)) (fun i a => rd_wr_ne _ _ _ _ (by omega) (by omega) (by omega))
      rw [if_neg h4, ek, ev, if_neg (by decide)]
      simp (disch := omega) only [↓G_tok, hm13, ↓as_12, l2, rd_wr_ne, hm, ↓K_tok, ↓oC_of (c_91 tx12 n9 p0 (Int.le_of_lt b1) b2 _ b3)]
      simp (disch := omega) only [↓G_tok, ↓P_tok, ↓as_14, rd_wr_ne, rd_wr_eq, rd_wr_ix, hm, w32_id, Int.add_sub_cancel, ↓al_12, ↓if_neg]
      rfl
  · -- a sign, or nothing
    have ee : enP t n p = p + 1 := by unfold enP; rw [if_neg hn, if_neg hL, if_neg hD]
    have ev : vaP t n p = t p := by unfold vaP; rw [if_neg hn, if_neg hL, if_neg (fun z => hD z.1)]
    rw [if_neg hD, w32_id (x := p + 1) (by omega) (by omega)]
    have go : ∀ s, (s = 0 ∨ s = 1) → (if s = 0 then (4 : Int) else 3) = kdP t n p → EI X (d + 1 + 1) 87 70 [some (.inr (.inr 11)), some (.inl p), some (.inl (t p)), some (.inl (p + 1)), none] [.inl s] S0 (ov g) = some (if kdP t n p = 4 then p else enP t n p, S0, ov (tkW g m p (kdP t n p) (vaP t n p))) := fun s hs hk => by
      rw [e_87_70]
      simp (disch := omega) only [↓G_tok, hm, ↓as_13, w16p, ↓oC_of (c_100 _ _ _), ↓oC_of (c_101 _ _ _), ↓if_b2i]
      rw [if_neg hL, if_neg hD, e_87_173, ← hk, ee, ev]
      simp (disch := omega) only [↓G_tok, hm13]
      rcases hs with rfl | rfl
      · rw [if_pos rfl, if_pos rfl, if_pos rfl, e_87_191]
        simp (disch := omega) only [↓G_tok, ↓P_tok, l4, ↓as_12, ↓as_14, rd_wr_ne, rd_wr_eq, rd_wr_ix, hm, w32_id, Int.add_sub_cancel, ↓al_12, ↓if_pos]
        rfl
      · rw [if_neg (by decide), if_neg (by decide), if_neg (by decide), e_87_191]
        simp (disch := omega) only [↓G_tok, ↓P_tok, l3, ↓as_12, ↓as_14, rd_wr_ne, rd_wr_eq, rd_wr_ix, hm, w32_id, Int.add_sub_cancel, ↓al_12, ↓if_neg]
        rfl
    by_cases hS : isSg (t p)
    · have g1 := go 1 (Or.inr rfl) (by unfold kdP; rw [if_neg hn, if_neg hL, if_neg hD, if_pos hS, if_neg (by decide)])
      rcases hS with z | z | z | z
      · rw [if_pos z]; exact g1
      · rw [if_neg (by omega), if_pos z]; exact g1
      · rw [if_neg (by omega), if_neg (by omega), if_pos z]; exact g1
      · rw [if_neg (by omega), if_neg (by omega), if_neg (by omega), if_pos z]; exact g1
    · have g0 := go 0 (Or.inl rfl) (by unfold kdP; rw [if_neg hn, if_neg hL, if_neg hD, if_neg hS, if_pos rfl])
      rw [if_neg (by omega), if_neg (by omega), if_neg (by omega), if_neg (by omega)]
      exact g0
end
