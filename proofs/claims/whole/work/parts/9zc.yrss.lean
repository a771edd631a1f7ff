/-! YEARS told, the class: a STEP -/
def adR (R : Int → Int → Int) (np : Int) (r : Int → Int) : Int → Int → Int := fun i => if i = np then r else R i
def clR (R : Int → Int → Int) (np m : Int) : Int → Int → Int := fun i k => if i = np then (if k = 0 then 21 else if k = 4 then m else 0) else if i = m ∧ k = 4 then np else R i k
abbrev isOp (w : Int) : Prop := w = 19 ∨ w = 23
def pStep {σ : Type} (t : Int → Int) (n q : Int) (s nm : Int → Int) (R : Int → Int → Int) (np ns D : Int) (oc om : Int → Int) (K : Int → (Int → Int → Int) → Int → Int → Int → (Int → Int) → (Int → Int) → Rr σ) : Rr σ :=
  if wdP t n q = 24 ∧ 0 < D then pStop t n (nxP t n q) (K (nx2 t n q) (clR R np (om (D - 1))) (np + 1) ns (D - 1) oc om)
  else if ¬ isSt (wdP t n q) then pBad t n q 2
  else if 30 ≤ ns then pBad t n q 6
  else if isOp (wdP t n q) ∧ 3 ≤ D then pBad t n q 7
  else pRest t n (wdP t n q) (nxP t n q) s nm fun q' r => pStop t n q' (if isOp (wdP t n q) then K (nxP t n q') (adR R np r) (np + 1) (ns + 1) (D + 1) (us oc D ns) (us om D np) else K (nxP t n q') (adR R np r) (np + 1) (ns + 1) D oc om)
def YSt (b n0 n1 : Int) (g : Mem) (R : Int → Int → Int) (np ns D : Int) (oc om : Int → Int) : Prop := rd g (b + 13) 0 = 1 ∧ rd g (b + 13) 1 = ns ∧ rd g 17 4 = D ∧ (∀ l, 0 ≤ l → l < D → rd g 18 l = oc l) ∧ CHn n0 n1 (cwG g b) R oc om D.toNat ns np ∧ (0 ≤ ns ∧ ns ≤ 30 ∧ 0 ≤ D ∧ D ≤ 3 ∧ 0 ≤ np ∧ np + D ≤ 2 * ns)
/-- nothing but TOKEN, FAULT, open blocks and the YEARS at b is other -/
def Fys (b : Int) (g g' : Mem) : Prop := ∀ c i, 0 ≤ c → 0 ≤ i → (c ≠ 11 ∨ i < 7 ∨ 13 < i) → (c ≠ 17 ∨ i ≠ 4) → c ≠ 18 → (c < b + 13 ∨ b + 20 < c) → rd g' c i = rd g c i
theorem Fys_tr {b : Int} {g g1 g2 : Mem} (h1 : Fys b g g1) (h2 : Fys b g1 g2) : Fys b g g2 := fun c i x y z w v u => (h2 c i x y z w v u).trans (h1 c i x y z w v u)
theorem Fys_FK {b : Int} {g g1 : Mem} (h : FK g g1) : Fys b g g1 := fun c i x y z _ _ _ => h c i x y z
theorem Fys_st {b a : Int} {g g1 : Mem} (h : Fst b a g g1) : Fys b g g1 := fun c i x y z _ _ v => h c i x y (by omega) (by omega)
theorem Fys_sk {b a : Int} {g g1 : Mem} (h : Fsk b a g g1) : Fys b g g1 := fun c i x y z _ _ v => h c i x y (by omega) (by omega)
theorem YSt_fr {b n0 n1 : Int} {g g' : Mem} {R : Int → Int → Int} {np ns D : Int} {oc om : Int → Int} (h : YSt b n0 n1 g R np ns D oc om) (hb : 0 ≤ b) (f : ∀ c i, 0 ≤ i → ((b + 13 ≤ c ∧ c ≤ b + 20) ∨ (c = 17 ∧ i = 4) ∨ c = 18) → rd g' c i = rd g c i) : YSt b n0 n1 g' R np ns D oc om := by
  obtain ⟨a1, a2, a3, a4, a5, a6⟩ := h
  exact ⟨(f _ _ (by omega) (by omega)).trans a1, (f _ _ (by omega) (by omega)).trans a2, (f _ _ (by omega) (by omega)).trans a3, fun l x y => (f _ _ x (by omega)).trans (a4 l x y), CH_congr _ _ _ (fun k t x y z _ => f _ _ z (by omega)) (fun _ _ _ _ _ _ => rfl) (fun _ _ => ⟨rfl, rfl⟩) a5, a6⟩
section
variable {X : Xs} {d : Nat} {g : Mem} {t : Int → Int} {n q b b0 N : Int} {s nm : Int → Int} {σ : Type} {P : Rr σ → Int → Mem → Prop} {f : Int → Sh → Mem → Option Rs} {R : Int → Int → Int} {np ns D : Int} {oc om : Int → Int}
theorem YC_fr {g' : Mem} (hb0 : isD b0) (h : YC b b0 g s nm) (f : ∀ c i, 0 ≤ c → 0 ≤ i → (c = 17 ∧ i < 4) ∨ c = 15 ∨ (c = 11 ∧ 11 < i) ∨ (b0 ≤ c ∧ c ≤ b0 + 12) → rd g' c i = rd g c i) : YC b b0 g' s nm := by
  have q2 := isD_rng hb0
  obtain ⟨a1, a2, a3, ⟨a4, a5⟩, a6, a7, a8⟩ := h
  have k : ∀ c i, b0 ≤ c → c ≤ b0 + 12 → 0 ≤ i → rd g' c i = rd g c i := fun c i x y z => f c i (by omega) z (by omega)
  refine ⟨(f _ _ (by omega) (by omega) (by omega)).trans a1, (f _ _ (by omega) (by omega) (by omega)).trans a2, RW_fr a3 (fun i x => f _ _ (by omega) x (by omega)), ⟨(f _ _ (by omega) (by omega) (by omega)).trans a4, (f _ _ (by omega) (by omega) (by omega)).trans a5⟩, ?_, fun i x y => (k _ _ (by omega) (by omega) x).trans (a7 i x y), fun i x y => (k _ _ (by omega) (by omega) x).trans (a8 i x y)⟩
  obtain ⟨r0, r1, r2, rt, rm, rw', r6, r7⟩ := a6
  unfold RD
  rw [k b0 0 (by omega) (by omega) (by omega), k b0 1 (by omega) (by omega) (by omega), k b0 14 (by omega) (by omega) (by omega), k b0 15 (by omega) (by omega) (by omega), k b0 16 (by omega) (by omega) (by omega), k b0 17 (by omega) (by omega) (by omega), k b0 18 (by omega) (by omega) (by omega)]
  refine ⟨r0, r1, fun i x y => ?_, fun i x y => ?_, fun m x y => ?_, fun m o x y z w => ?_, r6, r7⟩
  · rw [k _ _ (by omega) (by omega) x]; exact r2 i x y
  · rw [k _ _ (by omega) (by omega) x, k _ _ (by omega) (by omega) x, k _ _ (by omega) (by omega) x, k _ _ (by omega) (by omega) x]; exact rt i x y
  · rw [k _ _ (by omega) (by omega) x, k _ _ (by omega) (by omega) x, k _ _ (by omega) (by omega) x, k _ _ (by omega) (by omega) x]; exact rm m x y
  · rw [k _ _ (by omega) (by omega) (by omega)]; exact rw' m o x y z w
/-- a STEP more, the class -/
def asG (g : Mem) (b ns w : Int) : Mem := wr (wr (wr g (b + 13) 1 (ns + 1)) (b + 14) ns w) (b + 20) ns (ns + 1)
theorem c_115 (hb : isD b) (h1 : rd g (b + 13) 1 = ns) (n0 : 0 ≤ ns) (n1 : ns < 30) (w : Int) : MI X d 115 [.inr (.inr (b + 13)), .inl w] S0 (ov g) = some (ns, S0, ov (asG g b ns w)) := by
  have q1 := isD_rng hb
  rw [e_115]
  simp (disch := omega) only [↓G_yrs hb, h1, ↓P_yrs hb, w32_id, ↓as_D14 hb, rd_wr_ne, rd_wr_eq, ↓as_D20 hb]
  rfl
theorem asG_fr (hb : isD b) (n0 : 0 ≤ ns) (w : Int) : (∀ c i, 0 ≤ c → 0 ≤ i → (c < b + 13 ∨ b + 20 < c ∨ (c = b + 13 ∧ i ≠ 1) ∨ (b + 14 ≤ c ∧ i ≠ ns)) → rd (asG g b ns w) c i = rd g c i) ∧ rd (asG g b ns w) (b + 13) 1 = ns + 1 ∧ rd (asG g b ns w) (b + 14) ns = w ∧ rd (asG g b ns w) (b + 20) ns = ns + 1 := by
  have q1 := isD_rng hb
  unfold asG
  refine ⟨fun c i x y z => ?_, ?_, ?_, rd_wr_eq _ _ _ _⟩
  · have e : ∀ (h : Mem) (c0 j v : Int), 0 ≤ c0 → 0 ≤ j → (c ≠ c0 ∨ i ≠ j) → rd (wr h c0 j v) c i = rd h c i := fun h c0 j v c00 j0 z => by
      by_cases w : c = c0
      · subst w; exact rd_wr_ix _ _ j0 y (by omega)
      · exact rd_wr_ne _ _ _ _ c00 x w
    rw [e _ _ _ _ (by omega) n0 (by omega), e _ _ _ _ (by omega) n0 (by omega), e _ _ _ _ (by omega) (by omega) (by omega)]
  · rw [rd_wr_ne _ _ _ _ (by omega) (by omega) (by omega), rd_wr_ne _ _ _ _ (by omega) (by omega) (by omega), rd_wr_eq]
  · rw [rd_wr_ne _ _ _ _ (by omega) (by omega) (by omega), rd_wr_eq]
end
