/-! YEARS told: pure; the class' small readers -/
section
variable {σ : Type} (t : Int → Int) (n : Int)
def pMn (q : Int) (s nm : Int → Int) (K : Int → Rr σ) : Rr σ := pName t n q (if fn2 s nm (vaP t n q) = -1 then pBad t n q 3 else K (fn2 s nm (vaP t n q)))
def pTn (q : Int) (s nm : Int → Int) (K : Int → Rr σ) : Rr σ := pName t n q (if fn1 s nm (vaP t n q) = -1 then pBad t n q 3 else K (fn1 s nm (vaP t n q)))
def pCmp (q : Int) (K : Int → Rr σ) : Rr σ := if kdP t n q = 3 ∧ (vaP t n q = 60 ∨ vaP t n q = 62 ∨ vaP t n q = 61) then K (vaP t n q) else pBad t n q 2
/-- a row of the model with its kind -/
def row0 (k : Int) : Int → Int := fun j => if j = 0 then k else 0
def pTest (q : Int) (s nm : Int → Int) (K : Int → (Int → Int) → Rr σ) : Rr σ :=
  if wdP t n q = 20 then pCmp t n (nxP t n q) fun c => pNum t n (nx2 t n q) 0 12 fun z => K (nxP t n (nx2 t n q)) (us (us (row0 1923) 5 c) 2 z)
  else if wdP t n q = 10 then pMn t n (nxP t n q) s nm fun a => pCmp t n (nx2 t n q) fun c => pNum t n (nxP t n (nx2 t n q)) 0 60 fun z => K (nx2 t n (nx2 t n q)) (us (us (us (row0 1910) 1 a) 5 c) 2 z)
  else if wdP t n q = 21 then pTn t n (nxP t n q) s nm fun a => K (nx2 t n q) (us (row0 1924) 1 a)
  else if wdP t n q = 22 then K (nxP t n q) (row0 1925)
  else pBad t n q 2
def pRest (w q : Int) (s nm : Int → Int) (K : Int → (Int → Int) → Rr σ) : Rr σ :=
  if w = 12 then pMn t n q s nm fun a => pMn t n (nxP t n q) s nm fun o => K (nx2 t n q) (us (us (row0 12) 1 a) 2 o)
  else if w = 17 then pMn t n q s nm fun a => pNum t n (nxP t n q) 1 60 fun z => K (nx2 t n q) (us (us (row0 17) 1 a) 2 z)
  else if w = 19 then pTest t n q s nm K
  else if w = 23 then pNum t n q 1 99 fun z => K (nxP t n q) (us (row0 20) 1 z)
  else K q (row0 (pmP w))
end
/-- the STEP of the class with places c is the row r -/
def StP (n0 n1 w : Int) (r c : Int → Int) : Prop := c 0 = w ∧ ((w = 19 ∨ w = 23) → okO n0 n1 (c 0) (c 1) (c 3) (c 5) ∧ mO r (c 0) (c 1) (c 2) (c 3) (c 5)) ∧ (¬ (w = 19 ∨ w = 23) → (c 0 = 25 ∧ r 0 = 22) ∨ (okI n1 (c 0) (c 3) (c 4) (c 5) ∧ mS r (c 0) (c 3) (c 4) (c 5)))
/-- what the reader of YEARS knows -/
def YC (b b0 : Int) (g : Mem) (s nm : Int → Int) : Prop := rd g 17 2 = b0 ∧ rd g 17 3 = b + 13 ∧ RWd g ∧ Cf g 0 (-1) ∧ RD g b0 s ∧ (∀ i, 0 ≤ i → i < s 0 → rd g (b0 + 11) i = nm i) ∧ (∀ i, 0 ≤ i → i < s 1 → rd g (b0 + 12) i = nm (8 + i))
/-- nothing but the TOKEN and places of the STEP at `at` in the YEARS at b is other -/
def Fst (b a : Int) (g g' : Mem) : Prop := ∀ c i, 0 ≤ c → 0 ≤ i → (c ≠ 11 ∨ i < 7 ∨ 11 < i) → (c < b + 15 ∨ b + 19 < c ∨ i ≠ a) → rd g' c i = rd g c i
def Fsk (b a : Int) (g g' : Mem) : Prop := ∀ c i, 0 ≤ c → 0 ≤ i → (c ≠ 11 ∨ i < 7 ∨ 13 < i) → (c < b + 15 ∨ b + 19 < c ∨ i ≠ a) → rd g' c i = rd g c i
theorem Fst_tr {b a : Int} {g g1 g2 : Mem} (h1 : Fst b a g g1) (h2 : Fst b a g1 g2) : Fst b a g g2 := fun c i x y z w => (h2 c i x y z w).trans (h1 c i x y z w)
theorem Fst_FO {b a : Int} {g g1 : Mem} (h1 : FO g g1) : Fst b a g g1 := fun c i x y z _ => h1 c i x y z
theorem Fsk_st {b a : Int} {g g1 g2 : Mem} (h1 : Fst b a g g1) (h2 : FK g1 g2) : Fsk b a g g2 := fun c i x y z w => (h2 c i x y z).trans (h1 c i x y (by omega) w)
theorem Fst_wr {b a : Int} (g : Mem) {c0 : Int} (x : Int) (h : b + 15 ≤ c0 ∧ c0 ≤ b + 19) (b0 : 19 ≤ b) (a0 : 0 ≤ a) : Fst b a g (wr g c0 a x) := fun c i y z _ w => by
  by_cases e : c = c0
  · subst e; exact rd_wr_ix _ _ a0 z (by omega)
  · exact rd_wr_ne _ _ _ _ (by omega) y e
theorem YC_st {b b0 a : Int} (hb : isD b) (hb0 : isD b0) (hn : b ≠ b0) {g g' : Mem} {s nm : Int → Int} (h : YC b b0 g s nm) (f : Fst b a g g') : YC b b0 g' s nm := by
  have q1 := isD_rng hb
  have q2 := isD_rng hb0
  have hs : b + 20 < b0 ∨ b0 + 20 < b := by unfold isD at hb hb0; omega
  obtain ⟨a1, a2, a3, ⟨a4, a5⟩, a6, a7, a8⟩ := h
  have dc := DC_fr (b := b0) hb0 (g := g) (g' := g') (s := s) (nm := nm)
  have k : ∀ c i, b0 ≤ c → c ≤ b0 + 20 → 0 ≤ i → rd g' c i = rd g c i := fun c i x y z => f c i (by omega) z (by omega) (by omega)
  refine ⟨(f _ _ (by omega) (by omega) (by omega) (by omega)).trans a1, (f _ _ (by omega) (by omega) (by omega) (by omega)).trans a2, RW_fr a3 (fun i x => f _ _ (by omega) x (by omega) (by omega)), ⟨(f _ _ (by omega) (by omega) (by omega) (by omega)).trans a4, (f _ _ (by omega) (by omega) (by omega) (by omega)).trans a5⟩, ?_, fun i x y => (k _ _ (by omega) (by omega) x).trans (a7 i x y), fun i x y => (k _ _ (by omega) (by omega) x).trans (a8 i x y)⟩
  obtain ⟨r0, r1, r2, rt, rm, rw', r6, r7⟩ := a6
  unfold RD
  rw [k b0 0 (by omega) (by omega) (by omega), k b0 1 (by omega) (by omega) (by omega), k b0 14 (by omega) (by omega) (by omega), k b0 15 (by omega) (by omega) (by omega), k b0 16 (by omega) (by omega) (by omega), k b0 17 (by omega) (by omega) (by omega), k b0 18 (by omega) (by omega) (by omega)]
  refine ⟨r0, r1, fun i x y => ?_, fun i x y => ?_, fun m x y => ?_, fun m o x y z w => ?_, r6, r7⟩
  · rw [k _ _ (by omega) (by omega) x]; exact r2 i x y
  · rw [k _ _ (by omega) (by omega) x, k _ _ (by omega) (by omega) x, k _ _ (by omega) (by omega) x, k _ _ (by omega) (by omega) x]; exact rt i x y
  · rw [k _ _ (by omega) (by omega) x, k _ _ (by omega) (by omega) x, k _ _ (by omega) (by omega) x, k _ _ (by omega) (by omega) x]; exact rm m x y
  · rw [k _ _ (by omega) (by omega) (by omega)]; exact rw' m o x y z w
theorem Cs_st {b a : Int} (hb : isD b) {t : Int → Int} {n q : Int} {g g' : Mem} (cs : Cs t n g q) (c0 x : Int) (h : 15 ≤ c0) (e : g' = wr g c0 a x) : Cs t n g' q := by
  subst e
  exact Cs_fr cs (fun c i y z _ => rd_wr_ne _ _ _ _ (by omega) (by omega) (by omega))
section
variable {X : Xs} {d : Nat} {g : Mem} {t : Int → Int} {n q b b0 a N : Int} {s nm : Int → Int} {σ : Type} {P : Rr σ → Int → Mem → Prop} {f : Int → Sh → Mem → Option Rs}
theorem k_125 (hb : isD b) (hb0 : isD b0) (hn : b ≠ b0) (yc : YC b b0 g s nm) (iv : Iv N s) (cs : Cs t n g q) {K : Int → Rr σ} (hs : ∀ m g', 0 ≤ m → m < s 1 → FO g g' → Cs t n g' (nxP t n q) → Ok (P (K m)) (f m S0 (ov g'))) (hf : ∀ c p g', FK g g' → Cf g' c p → Ok (P (.inl (c, p))) (f (-1) S0 (ov g'))) : Ok (P (pMn t n q s nm K)) (oC (MI X (d + 2) 125 [.inr (.inr 17)] S0 (ov g)) f) := by
  have i2 := iv.2.2.1
  rw [e_125]
  simp only [↓G_yre, ↓K_tok]
  rw [oC_as]
  refine k_98 yc.2.2.1 cs (fun _ _ g1 fo ct cs1 => ?_) (fun g1 fk cf => hf _ _ g1 fk cf)
  obtain ⟨e2, -, -, -, r', -, n2⟩ := YC_st (a := 0) hb hb0 hn yc (Fst_FO fo)
  simp only [Int.reduceEq, ↓reduceIte, ↓G_yre, ↓G_tok, ct.2.1, e2, ↓K_daw hb0, ↓oC_of (c_26 hb0 r' iv n2 _), ↓K_tok]
  have fr := fn2_r s nm (vaP t n q) i2
  generalize fn2 s nm (vaP t n q) = x at fr ⊢
  by_cases z : x = -1
  · rw [if_pos z, if_pos z, oC_as, z]
    exact k_93 ct 3 (fun g2 fk cf => hf _ _ g2 (FK_tr (FK_FO fo) fk) cf)
  · rw [if_neg z, if_neg z]
    exact hs x g1 (by omega) (by omega) fo cs1
theorem k_126 (hb : isD b) (hb0 : isD b0) (hn : b ≠ b0) (yc : YC b b0 g s nm) (iv : Iv N s) (cs : Cs t n g q) {K : Int → Rr σ} (hs : ∀ m g', 0 ≤ m → m < s 0 → FO g g' → Cs t n g' (nxP t n q) → Ok (P (K m)) (f m S0 (ov g'))) (hf : ∀ c p g', FK g g' → Cf g' c p → Ok (P (.inl (c, p))) (f (-1) S0 (ov g'))) : Ok (P (pTn t n q s nm K)) (oC (MI X (d + 2) 126 [.inr (.inr 17)] S0 (ov g)) f) := by
  have i2 := iv.1
  rw [e_126]
  simp only [↓G_yre, ↓K_tok]
  rw [oC_as]
  refine k_98 yc.2.2.1 cs (fun _ _ g1 fo ct cs1 => ?_) (fun g1 fk cf => hf _ _ g1 fk cf)
  obtain ⟨e2, -, -, -, r', n1, -⟩ := YC_st (a := 0) hb hb0 hn yc (Fst_FO fo)
  simp only [Int.reduceEq, ↓reduceIte, ↓G_yre, ↓G_tok, ct.2.1, e2, ↓K_daw hb0, ↓oC_of (c_25 hb0 r' iv n1 _), ↓K_tok]
  have fr := fn1_r s nm (vaP t n q) i2
  generalize fn1 s nm (vaP t n q) = x at fr ⊢
  by_cases z : x = -1
  · rw [if_pos z, if_pos z, oC_as, z]
    exact k_93 ct 3 (fun g2 fk cf => hf _ _ g2 (FK_tr (FK_FO fo) fk) cf)
  · rw [if_neg z, if_neg z]
    exact hs x g1 (by omega) (by omega) fo cs1
theorem k_123 (hb : isD b) (hb0 : isD b0) (hn : b ≠ b0) (yc : YC b b0 g s nm) (a0 : 0 ≤ a) (a1 : a < 30) (cs : Cs t n g q) {K : Int → Rr σ} (hs : ∀ c g1, (c = 60 ∨ c = 62 ∨ c = 61) → FO g g1 → Cs t n g1 (nxP t n q) → Ok (P (K c)) (f 1 S0 (ov (wr g1 (b + 16) a c)))) (hf : ∀ c p g', FK g g' → Cf g' c p → Ok (P (.inl (c, p))) (f 0 S0 (ov g'))) : Ok (P (pCmp t n q K)) (oC (MI X (d + 1) 123 [.inr (.inr 17), .inl a] S0 (ov g)) f) := by
  rw [e_123]
  simp only [↓G_yre, ↓K_tok]
  rw [oC_as]
  refine k_92 yc.2.2.1 cs (fun v g1 fo ct cs1 => ?_)
  obtain ⟨-, e3, -⟩ := YC_st (a := 0) hb hb0 hn yc (Fst_FO fo)
  simp only [↓G_yre, ↓K_tok, ↓oC_of (c_94 ct _), ↓if_b2i]
  unfold pCmp
  by_cases k3 : kdP t n q = 3
  case neg =>
    rw [if_neg (fun z => k3 z.1), if_neg (fun z => k3 z.1), if_neg (fun z => k3 z.1), if_neg (fun z => k3 z.1), oC_as]
    exact k_93 ct 2 (fun g2 fk cf => hf _ _ g2 (FK_tr (FK_FO fo) fk) cf)
  by_cases v1 : vaP t n q = 60 ∨ vaP t n q = 62 ∨ vaP t n q = 61
  case neg =>
    rw [if_neg (by omega), if_neg (by omega), if_neg (by omega), if_neg (by omega), oC_as]
    exact k_93 ct 2 (fun g2 fk cf => hf _ _ g2 (FK_tr (FK_FO fo) fk) cf)
  rw [if_pos (show kdP t n q = 3 ∧ (vaP t n q = 60 ∨ vaP t n q = 62 ∨ vaP t n q = 61) from ⟨k3, v1⟩)]
  have fin := hs (vaP t n q) g1 v1 fo (cs1 (by omega) (by omega))
  have ew : w32 (vaP t n q) = vaP t n q := w32_id (by omega) (by omega)
  simp (disch := omega) only [↓G_tok, ct.2.1, e3, ↓G_yrs hb, ew, ↓as_D16 hb]
  by_cases x1 : vaP t n q = 60
  · rw [if_pos ⟨k3, x1⟩]; exact fin
  · rw [if_neg (fun z => x1 z.2)]
    by_cases x2 : vaP t n q = 62
    · rw [if_pos ⟨k3, x2⟩]; exact fin
    · rw [if_neg (fun z => x2 z.2), if_pos ⟨k3, by omega⟩]; exact fin
theorem k_124 (hb : isD b) (hb0 : isD b0) (hn : b ≠ b0) (yc : YC b b0 g s nm) (a0 : 0 ≤ a) (a1 : a < 30) (cs : Cs t n g q) (lo hi : Int) (l0 : 0 ≤ lo) (h0 : hi < 2147483648) {K : Int → Rr σ} (hs : ∀ z g1, lo ≤ z → z ≤ hi → FO g g1 → Cs t n g1 (nxP t n q) → Ok (P (K z)) (f 1 S0 (ov (wr g1 (b + 19) a z)))) (hf : ∀ c p g', FK g g' → Cf g' c p → Ok (P (.inl (c, p))) (f 0 S0 (ov (wr g' (b + 19) a (-1))))) : Ok (P (pNum t n q lo hi K)) (oC (MI X (d + 2) 124 [.inr (.inr 17), .inl a, .inl lo, .inl hi] S0 (ov g)) f) := by
  have q1 := isD_rng hb
  rw [e_124]
  simp only [↓G_yre, yc.2.1, ↓G_yrs hb, ↓K_tok]
  rw [oC_as]
  refine k_97 yc.2.2.1 cs lo hi l0 h0 (fun x y g1 fo ct cs1 => ?_) (fun c g1 fk cf => ?_)
  · have e3 : rd (wr g1 (b + 19) a (vaP t n q)) 17 3 = b + 13 := by
      rw [rd_wr_ne _ _ _ _ (by omega) (by omega) (by omega), fo _ _ (by omega) (by omega) (by omega)]; exact yc.2.1
    simp (disch := omega) only [↓as_D19 hb, ↓G_yre, e3, ↓G_yrs hb, ↓al_D19 X hb, rd_wr_eq]
    rw [if_neg (by omega)]
    exact hs _ g1 x y fo cs1
  · have e3 : rd (wr g1 (b + 19) a (-1)) 17 3 = b + 13 := by
      rw [rd_wr_ne _ _ _ _ (by omega) (by omega) (by omega), fk _ _ (by omega) (by omega) (by omega)]; exact yc.2.1
    simp (disch := omega) only [↓as_D19 hb, ↓G_yre, e3, ↓G_yrs hb, ↓al_D19 X hb, rd_wr_eq]
    simp only [↓reduceIte]
    exact hf _ _ g1 fk cf
end
