/-! a DAWN told: pure; and the class -/
section
variable {σ : Type} (t : Int → Int) (n : Int)
def fn1 (s nm : Int → Int) (v : Int) : Int := ff (fun i => decide (nm i = v)) (s 0).toNat 0
def fn2 (s nm : Int → Int) (v : Int) : Int := ff (fun i => decide (nm (8 + i) = v)) (s 1).toNat 0
abbrev nx2 (q : Int) : Int := nxP t n (nxP t n q)
def pNew (q : Int) (s nm : Int → Int) (K : Rr σ) : Rr σ := pName t n q (if fn1 s nm (vaP t n q) = -1 ∧ fn2 s nm (vaP t n q) = -1 then K else pBad t n q 3)
def pAm (q w lo hi : Int) (K : Int → Rr σ) : Rr σ := pWord t n q w (pNum t n (nxP t n q) lo hi K)
def pThing (q : Int) (s nm : Int → Int) (K : Int → (Int → Int) → (Int → Int) → Rr σ) : Rr σ :=
  if s 0 < 8 then
    pNew t n (nxP t n q) s nm (pAm t n (nx2 t n q) 5 1 6 fun r => pAm t n (nx2 t n (nx2 t n q)) 6 0 9 fun w => pAm t n (nx2 t n (nx2 t n (nx2 t n q))) 7 1 30 fun k =>
      pStop t n (nx2 t n (nx2 t n (nx2 t n (nx2 t n q)))) (K (nxP t n (nx2 t n (nx2 t n (nx2 t n (nx2 t n q))))) (fgS s r w k) (us nm (s 0) (vaP t n (nxP t n q)))))
  else pBad t n q 6
def mnS (s : Int → Int) (st li : Int) : Int → Int := us (us (us (us (us s 1 (s 1 + 1)) (44 + 10 * s 1) st) (44 + 10 * s 1 + 1) li) (44 + 10 * s 1 + 2) li) (44 + 10 * s 1 + 3) (-1)
def pHeld (q : Int) (s nm : Int → Int) (K : Int → Rr σ) : Rr σ := pName t n q (if fn1 s nm (vaP t n q) = -1 then pBad t n q 3 else if hoN s (fn1 s nm (vaP t n q)) = -1 then K (fn1 s nm (vaP t n q)) else pBad t n q 5)
def pMan (q : Int) (s nm : Int → Int) (K : Int → (Int → Int) → (Int → Int) → Rr σ) : Rr σ :=
  if s 1 < 6 then
    pNew t n (nxP t n q) s nm (pAm t n (nx2 t n q) 9 0 9 fun st => pAm t n (nx2 t n (nx2 t n q)) 10 1 60 fun li =>
      if wdP t n (nx2 t n (nx2 t n (nx2 t n q))) = 11 then
        pHeld t n (nxP t n (nx2 t n (nx2 t n (nx2 t n q)))) (mnS s st li) (us nm (8 + s 1) (vaP t n (nxP t n q))) fun h =>
          pStop t n (nx2 t n (nx2 t n (nx2 t n (nx2 t n q)))) (K (nxP t n (nx2 t n (nx2 t n (nx2 t n (nx2 t n q))))) (us (mnS s st li) (44 + 10 * s 1 + 3) h) (us nm (8 + s 1) (vaP t n (nxP t n q))))
      else pStop t n (nx2 t n (nx2 t n (nx2 t n q))) (K (nxP t n (nx2 t n (nx2 t n (nx2 t n q)))) (mnS s st li) (us nm (8 + s 1) (vaP t n (nxP t n q)))))
  else pBad t n q 6
def pRule (q w : Int) (s : Int → Int) (told : Int) (K : Int → (Int → Int) → Int → Rr σ) : Rr σ :=
  if am_and (am_shr told w) 1 = 0 then pNum t n (nxP t n q) (roLow w) (roHigh w) fun x => pStop t n (nx2 t n q) (K (nxP t n (nx2 t n q)) (us s (2 + w) x) (am_or told (am_shl 1 w)))
  else pBad t n q 5
def pDawn : Nat → Int → (Int → Int) → (Int → Int) → Int → Rr ((Int → Int) × (Int → Int))
  | 0, q, _, _, _ => pBad t n q 2
  | f + 1, q, s, nm, told =>
    if kdP t n q = 0 then .inr (s, nm)
    else if 0 ≤ wdP t n q ∧ wdP t n q < 4 then pRule t n q (wdP t n q) s told fun q' s' told' => pDawn f q' s' nm told'
    else if wdP t n q = 4 then pThing t n q s nm fun q' s' nm' => pDawn f q' s' nm' told
    else if wdP t n q = 8 then pMan t n q s nm fun q' s' nm' => pDawn f q' s' nm' told
    else pBad t n q 2
end
theorem oC_as (o : Option Rs) (F f : Int → Sh → Mem → Option Rs) : oC (oC o F) f = oC o (fun v S h => oC (F v S h) f) := by
  cases o with
  | none => rfl
  | some x => rfl
def DC (b : Int) (g : Mem) (s nm : Int → Int) : Prop := RD g b s ∧ (∀ i, 0 ≤ i → i < 36 → rd g (b + 10) i = 0) ∧ (∀ i, 0 ≤ i → i < s 0 → rd g (b + 11) i = nm i) ∧ (∀ i, 0 ≤ i → i < s 1 → rd g (b + 12) i = nm (8 + i))
/-- the pure DAWN of a draft -/
def PU (s : Int → Int) : Prop := Iv 0 s ∧ s 6 = -1 ∧ s 11 = -1 ∧ ∀ m o, 0 ≤ m → 0 ≤ o → o < 6 → mn s m (4 + o) = 0
def Fdw (b : Int) (g g' : Mem) : Prop := ∀ c i, 0 ≤ c → 0 ≤ i → (c < 11 ∨ 14 < c) → (c ≠ 16 ∨ i ≠ 2) → (c < b ∨ b + 12 < c) → rd g' c i = rd g c i
theorem Fdw_tr {b : Int} {g g1 g2 : Mem} (h1 : Fdw b g g1) (h2 : Fdw b g1 g2) : Fdw b g g2 := fun c i x y z w v => (h2 c i x y z w v).trans (h1 c i x y z w v)
theorem Fdw_FK {b : Int} {g g1 : Mem} (h1 : FK g g1) : Fdw b g g1 := fun c i x y z w v => h1 c i x y (by omega)
theorem Fdw_FO {b : Int} {g g1 : Mem} (h1 : FO g g1) : Fdw b g g1 := fun c i x y z w v => h1 c i x y (by omega)
theorem FO_tr {g g1 g2 : Mem} (h1 : FO g g1) (h2 : FO g1 g2) : FO g g2 := fun c i a b e => (h2 c i a b e).trans (h1 c i a b e)
def DSt (b : Int) (g : Mem) (s nm : Int → Int) (told : Int) : Prop := DC b g s nm ∧ rd g 16 1 = b ∧ rd g 16 2 = told ∧ RWd g ∧ Cf g 0 (-1)
theorem DC_fr {b : Int} (hb : isD b) {g g' : Mem} {s nm : Int → Int} (h : DC b g s nm) (f : ∀ c i, b ≤ c → c ≤ b + 20 → 0 ≤ i → rd g' c i = rd g c i) : DC b g' s nm := by
  obtain ⟨⟨r0, r1, r2, rt, rm, rw', r6, r7⟩, a, c, e⟩ := h
  refine ⟨?_, fun i x y => ?_, fun i x y => ?_, fun i x y => ?_⟩
  · unfold RD
    rw [f b 0 (by omega) (by omega) (by omega), f b 1 (by omega) (by omega) (by omega), f b 14 (by omega) (by omega) (by omega), f b 15 (by omega) (by omega) (by omega), f b 16 (by omega) (by omega) (by omega), f b 17 (by omega) (by omega) (by omega), f b 18 (by omega) (by omega) (by omega)]
    refine ⟨r0, r1, fun i x y => ?_, fun i x y => ?_, fun m x y => ?_, fun m o x y z w => ?_, r6, r7⟩
    · rw [f _ _ (by omega) (by omega) x]; exact r2 i x y
    · rw [f _ _ (by omega) (by omega) x, f _ _ (by omega) (by omega) x, f _ _ (by omega) (by omega) x, f _ _ (by omega) (by omega) x]; exact rt i x y
    · rw [f _ _ (by omega) (by omega) x, f _ _ (by omega) (by omega) x, f _ _ (by omega) (by omega) x, f _ _ (by omega) (by omega) x]; exact rm m x y
    · rw [f _ _ (by omega) (by omega) (by omega)]; exact rw' m o x y z w
  · rw [f _ _ (by omega) (by omega) x]; exact a i x y
  · rw [f _ _ (by omega) (by omega) x]; exact c i x y
  · rw [f _ _ (by omega) (by omega) x]; exact e i x y
theorem DSt_FO {b : Int} (hb : isD b) {g g' : Mem} {s nm : Int → Int} {told : Int} (h : DSt b g s nm told) (f : FO g g') : DSt b g' s nm told := by
  have hb2 := isD_rng hb
  obtain ⟨a, e1, e2, rw', c1, c2⟩ := h
  exact ⟨DC_fr hb a (fun c i x y z => f c i (by omega) z (by omega)), (f _ _ (by omega) (by omega) (by omega)).trans e1, (f _ _ (by omega) (by omega) (by omega)).trans e2, RW_fr rw' (fun i a => f _ _ (by omega) a (by omega)), (f _ _ (by omega) (by omega) (by omega)).trans c1, (f _ _ (by omega) (by omega) (by omega)).trans c2⟩
theorem RWd_FO {g g' : Mem} (h : RWd g) (f : FO g g') : RWd g' := RW_fr h (fun i a => f _ _ (by omega) a (by omega))
section
variable {X : Xs} {d : Nat} {g : Mem} {t : Int → Int} {n q b N : Int} {s nm : Int → Int} {told : Int} {σ : Type} {P : Rr σ → Int → Mem → Prop} {f : Int → Sh → Mem → Option Rs}
theorem c_86 (hr : txR t n) (hx : ∀ i, 0 ≤ i → i < n → rd g 10 i = t i) : Ok (fun _ g' => Cs t n g' (skP t n 0) ∧ Cf g' 0 (-1) ∧ (∀ c i, 0 ≤ c → 0 ≤ i → (c < 11 ∨ 14 < c) → rd g' c i = rd g c i)) (MI X (d + 3) 86 [.inr (.inr 11), .inl n] S0 (ov g)) := by
  obtain ⟨n0, n9, -⟩ := id hr
  have go : MI X (d + 3) 86 [.inr (.inr 11), .inl n] S0 (ov g) = EI X (d + 3) 86 40 [some (.inr (.inr 11)), none, some (.inl 0), none] [] S0 (ov (wr (wr (wr (wr (wr g 11 5 n) 11 6 0) 11 7 0) 11 12 0) 11 13 (-1))) := by
    rw [e_86]
    simp only [↓P_tok]
    by_cases h : n < 900
    · rw [if_pos h]
    · rw [if_neg h, show n = 900 by omega]
  rw [go]
  generalize hg1 : wr (wr (wr (wr (wr g 11 5 n) 11 6 0) 11 7 0) 11 12 0) 11 13 (-1) = g1
  have e5 : rd g1 11 5 = n := by subst hg1; simp (disch := omega) only [rd_wr_ix, rd_wr_eq]
  have e6 : rd g1 11 6 = 0 := by subst hg1; simp (disch := omega) only [rd_wr_ix, rd_wr_eq]
  have e7 : rd g1 11 7 = 0 := by subst hg1; simp (disch := omega) only [rd_wr_ix, rd_wr_eq]
  have e12 : rd g1 11 12 = 0 := by subst hg1; simp (disch := omega) only [rd_wr_ix, rd_wr_eq]
  have e13 : rd g1 11 13 = -1 := by subst hg1; exact rd_wr_eq _ _ _ _
  have fr : ∀ c i, 0 ≤ c → c ≠ 11 → rd g1 c i = rd g c i := fun c i a e => by subst hg1; simp (disch := omega) only [rd_wr_ne]
  clear hg1
  refine Ok_mono (c_86_l hr (n - 0).toNat 0 0 g1 (by omega) (by omega) n0 (by omega) (by omega) ⟨e5, fun i a c => (fr _ _ (by omega) (by omega)).trans (hx i a c)⟩ e6) ?_
  rintro v g' ⟨ta, f2⟩
  refine ⟨⟨_, 0, ta, ?_⟩, ⟨?_, ?_⟩, fun c i a e h => ?_⟩
  · rw [f2 _ _ (by omega) (by omega) (by omega) (by omega)]; exact e7
  · rw [f2 _ _ (by omega) (by omega) (by omega) (by omega)]; exact e12
  · rw [f2 _ _ (by omega) (by omega) (by omega) (by omega)]; exact e13
  · rw [f2 _ _ a e (by omega) (by omega)]; exact fr c i a (by omega)
theorem k_51 (rw' : RWd g) (cs : Cs t n g q) (w lo hi : Int) (w0 : 0 ≤ w) (l0 : 0 ≤ lo) (h0 : hi < 2147483648) {K : Int → Rr σ} (hs : ∀ x g', lo ≤ x → x ≤ hi → FO g g' → Cs t n g' (nx2 t n q) → Ok (P (K x)) (f x S0 (ov g'))) (hf : ∀ c p g', FK g g' → Cf g' c p → Ok (P (.inl (c, p))) (f (-1) S0 (ov g'))) : Ok (P (pAm t n q w lo hi K)) (oC (MI X (d + 2) 51 [.inr (.inr 16), .inl w, .inl lo, .inl hi] S0 (ov g)) f) := by
  rw [e_51]
  simp only [↓G_dre, ↓K_tok]
  rw [oC_as]
  refine k_96 rw' cs w w0 (fun g1 fo ct cs1 => ?_) (fun g1 fk cf => hf _ _ g1 fk cf)
  simp only [Int.reduceEq, ↓reduceIte, ↓G_dre, ↓K_tok]
  rw [oC_as]
  exact k_97 (RWd_FO rw' fo) cs1 lo hi l0 h0 (fun a c g2 fo2 ct2 cs2 => hs _ g2 a c (FO_tr fo fo2) cs2) (fun c g2 fk cf => hf _ _ g2 (FK_tr (FK_FO fo) fk) cf)
theorem c_25_l (hb : isD b) (r : RD g b s) (hi : Iv N s) (hn : ∀ i, 0 ≤ i → i < s 0 → rd g (b + 11) i = nm i) (v : Int) : ∀ (k : Nat) (m : Int), m + k = s 0 → 0 ≤ m → EI X d 25 2 [some (.inr (.inr b)), some (.inr (.inl v)), none, some (.inl m)] [] S0 (ov g) = some (ff (fun i => decide (nm i = v)) k m, S0, ov g) := by
  have i1 := hi.2.1
  have r0 := r.1
  intro k
  induction k with
  | zero =>
    intro m hk hm
    rw [e_25_2]
    simp (disch := omega) only [↓G_daw hb, r0, ↓if_neg]
    rfl
  | succ k ih =>
    intro m hk hm
    rw [e_25_2]
    simp (disch := omega) only [↓G_daw hb, r0, ↓if_pos, ↓al_D11 hb, hn m hm (by omega), lcm_eq]
    show _ = some (bif decide (nm m = v) then m else ff (fun i => decide (nm i = v)) k (m + 1), S0, ov g)
    by_cases z : nm m = v
    · rw [if_pos z, decide_eq_true z]; rfl
    · rw [if_neg z, decide_eq_false z, w32_id (by omega) (by omega)]
      exact ih (m + 1) (by omega) (by omega)
theorem c_25 (hb : isD b) (r : RD g b s) (hi : Iv N s) (hn : ∀ i, 0 ≤ i → i < s 0 → rd g (b + 11) i = nm i) (v : Int) : MI X d 25 [.inr (.inr b), .inr (.inl v)] S0 (ov g) = some (fn1 s nm v, S0, ov g) := by
  have i0 := hi.1
  rw [e_25]
  exact c_25_l hb r hi hn v (s 0).toNat 0 (by omega) (by omega)
theorem c_26_l (hb : isD b) (r : RD g b s) (hi : Iv N s) (hn : ∀ i, 0 ≤ i → i < s 1 → rd g (b + 12) i = nm (8 + i)) (v : Int) : ∀ (k : Nat) (m : Int), m + k = s 1 → 0 ≤ m → EI X d 26 2 [some (.inr (.inr b)), some (.inr (.inl v)), none, some (.inl m)] [] S0 (ov g) = some (ff (fun i => decide (nm (8 + i) = v)) k m, S0, ov g) := by
  have i1 := hi.2.2.2.1
  have r0 := r.2.1
  intro k
  induction k with
  | zero =>
    intro m hk hm
    rw [e_26_2]
    simp (disch := omega) only [↓G_daw hb, r0, ↓if_neg]
    rfl
  | succ k ih =>
    intro m hk hm
    rw [e_26_2]
    simp (disch := omega) only [↓G_daw hb, r0, ↓if_pos, ↓al_D12 hb, hn m hm (by omega), lcm_eq]
    show _ = some (bif decide (nm (8 + m) = v) then m else ff (fun i => decide (nm (8 + i) = v)) k (m + 1), S0, ov g)
    by_cases z : nm (8 + m) = v
    · rw [if_pos z, decide_eq_true z]; rfl
    · rw [if_neg z, decide_eq_false z, w32_id (by omega) (by omega)]
      exact ih (m + 1) (by omega) (by omega)
theorem c_26 (hb : isD b) (r : RD g b s) (hi : Iv N s) (hn : ∀ i, 0 ≤ i → i < s 1 → rd g (b + 12) i = nm (8 + i)) (v : Int) : MI X d 26 [.inr (.inr b), .inr (.inl v)] S0 (ov g) = some (fn2 s nm v, S0, ov g) := by
  have i0 := hi.2.2.1
  rw [e_26]
  exact c_26_l hb r hi hn v (s 1).toNat 0 (by omega) (by omega)
/-- a name that none bears -/
theorem k_52 (hb : isD b) (st : DSt b g s nm told) (pu : PU s) (cs : Cs t n g q) {K : Rr σ} (hs : ∀ g', FO g g' → Ct t n g' q → Cs t n g' (nxP t n q) → Ok (P K) (f 1 S0 (ov g'))) (hf : ∀ c p g', FK g g' → Cf g' c p → Ok (P (.inl (c, p))) (f 0 S0 (ov g'))) : Ok (P (pNew t n q s nm K)) (oC (MI X (d + 2) 52 [.inr (.inr 16)] S0 (ov g)) f) := by
  rw [e_52]
  simp only [↓G_dre, ↓K_tok]
  rw [oC_as]
  refine k_98 st.2.2.2.1 cs (fun h1 h2 g1 fo ct cs1 => ?_) (fun g1 fk cf => hf _ _ g1 fk cf)
  obtain ⟨⟨r, -, n1, n2⟩, e1, -, -, -⟩ := DSt_FO hb st fo
  have bad : Ok (P (pBad t n q 3)) (oC (oC (MI X (d + 1) 93 [.inr (.inr 11), .inl 3] S0 (ov g1)) fun r8 S8 m8 => if r8 = 0 then some (0, S8, m8) else some (1, S8, m8)) f) := by
    rw [oC_as]
    exact k_93 ct 3 (fun g2 fk cf => hf _ _ g2 (FK_tr (FK_FO fo) fk) cf)
  simp only [Int.reduceEq, ↓reduceIte, ↓G_dre, ↓G_tok, ct.2.1, e1, ↓K_daw hb, ↓K_tok, ↓oC_of (c_25 hb r pu.1 n1 _), ↓oC_of (c_26 hb r pu.1 n2 _)]
  by_cases z : fn1 s nm (vaP t n q) = -1
  · rw [if_pos z]
    by_cases w : fn2 s nm (vaP t n q) = -1
    · rw [if_pos w, if_pos ⟨z, w⟩]
      exact hs g1 fo ct cs1
    · rw [if_neg w, if_neg (fun y => w y.2)]
      exact bad
  · rw [if_neg z, if_neg (fun y => z y.1)]
    exact bad
end
