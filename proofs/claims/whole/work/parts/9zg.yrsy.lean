/-! YEARS told, the class: all of them -/
def pYears (t : Int → Int) (n : Int) (s nm : Int → Int) : Nat → Int → (Int → Int → Int) → Int → Int → Int → (Int → Int) → (Int → Int) → Rr ((Int → Int → Int) × Int × Int)
  | 0, q, _, _, _, _, _, _ => pBad t n q 2
  | f + 1, q, R, np, ns, D, oc, om =>
    if kdP t n q = 0 then (if D = 0 then .inr (R, np, ns) else pBad t n q 2)
    else pStep t n q s nm R np ns D oc om fun q' R' np' ns' D' oc' om' => pYears t n s nm f q' R' np' ns' D' oc' om'
/-- the end of YEARS told, the class -/
def Pyc (b n0 n1 : Int) (g : Mem) (r : Rr ((Int → Int → Int) × Int × Int)) (v : Int) (g' : Mem) : Prop := Fys b g g' ∧ match r with
  | .inl (c, p) => v = 0 ∧ Cf g' c p
  | .inr (R, np, ns) => v = 1 ∧ Cf g' 0 (-1) ∧ rd g' (b + 13) 0 = 1 ∧ rd g' (b + 13) 1 = ns ∧ (0 ≤ ns ∧ ns ≤ 30) ∧ (0 ≤ np ∧ np ≤ 60) ∧ ∃ f, Blk n0 n1 (cwG g' b) R f 0 0 ns 0 np
theorem Pyc_tr {b n0 n1 : Int} {g g1 : Mem} (h : Fys b g g1) {r : Rr ((Int → Int → Int) × Int × Int)} {v : Int} {g2 : Mem} (k : Pyc b n0 n1 g1 r v g2) : Pyc b n0 n1 g r v g2 := ⟨Fys_tr h k.1, k.2⟩
def Fyt (b : Int) (g g' : Mem) : Prop := ∀ c i, 0 ≤ c → 0 ≤ i → (c < 11 ∨ 14 < c) → c ≠ 17 → c ≠ 18 → (c < b + 13 ∨ b + 20 < c) → rd g' c i = rd g c i
abbrev pYears0 (t : Int → Int) (n : Int) (s nm : Int → Int) : Rr ((Int → Int → Int) × Int × Int) := pYears t n s nm (n + 1).toNat (skP t n 0) (fun _ _ => 0) 0 0 0 (fun _ => 0) (fun _ => 0)
def Qyc (b n0 n1 : Int) (g : Mem) (r : Rr ((Int → Int → Int) × Int × Int)) (v : Int) (g' : Mem) : Prop := Fyt b g g' ∧ match r with
  | .inl (c, p) => v = 0 ∧ Cf g' c p
  | .inr (R, np, ns) => v = 1 ∧ Cf g' 0 (-1) ∧ rd g' (b + 13) 0 = 1 ∧ rd g' (b + 13) 1 = ns ∧ (0 ≤ ns ∧ ns ≤ 30) ∧ (0 ≤ np ∧ np ≤ 60) ∧ ∃ f, Blk n0 n1 (cwG g' b) R f 0 0 ns 0 np
section
variable {X : Xs} {d : Nat} {g : Mem} {t : Int → Int} {n q b b0 N : Int} {s nm : Int → Int}
theorem c_118_l (hb : isD b) (hb0 : isD b0) (hn : b ≠ b0) (iv : Iv N s) (n9 : n ≤ 900) : ∀ (k : Nat) (i q : Int) (g : Mem) (R : Int → Int → Int) (np ns D : Int) (oc om : Int → Int), i + k = n + 1 → 0 ≤ i → i ≤ q → q ≤ n → YC b b0 g s nm → YSt b (s 0) (s 1) g R np ns D oc om → Cs t n g q → Ok (Pyc b (s 0) (s 1) g (pYears t n s nm k q R np ns D oc om)) (EI X (d + 7) 118 41 [some (.inr (.inr 17)), none, none, some (.inl n), some (.inl i)] [] S0 (ov g)) := by
  intro k
  induction k with
  | zero => intro i q g R np ns D oc om h1 h2 h3 h4; omega
  | succ k ih =>
    intro i q g R np ns D oc om h1 h2 h3 h4 yc ys cs
    rw [e_118_41, if_neg (by omega)]
    simp only [↓G_yre, ↓K_tok]
    unfold pYears
    refine k_92 yc.2.2.1 cs (fun v g1 fo ct cs1 => ?_)
    have yc1 := YC_st (a := 0) hb hb0 hn yc (Fst_FO fo)
    have q1 := isD_rng hb
    have ys1 := YSt_fr ys (by omega) (g' := g1) (fun c i x y => fo c i (by omega) x (by omega))
    have f1 : Fys b g g1 := Fys_FK (FK_FO fo)
    simp only [↓G_yre, ↓G_tok, ct.1, ys1.2.2.1, ct.2.2.2, ↓K_yre, ↓K_tok]
    by_cases z : kdP t n q = 0
    · rw [if_pos z, if_pos z]
      by_cases hD : D = 0
      · rw [if_pos hD, if_pos hD]
        obtain ⟨a1, a2, a3, a4, a5, a6⟩ := ys1
        rw [hD] at a5
        exact Ok_some ⟨f1, rfl, yc1.2.2.2.1, a1, a2, by omega, by omega, a5⟩
      · rw [if_neg hD, if_neg hD]
        exact k_93 ct 2 (fun g2 fk cf => Ok_some ⟨Fys_tr f1 (Fys_FK fk), rfl, cf⟩)
    · rw [if_neg z, if_neg z]
      refine k_119 (d := d) hb hb0 hn yc1 iv ys1 z ct cs1 (fun q' R' np' ns' D' oc' om' g' gy => ?_) (fun c p g' fd cf => Ok_some ⟨Fys_tr f1 fd, rfl, cf⟩)
      obtain ⟨b1, b2, b3, b4, b5, b6⟩ := gy
      show Ok _ (if (1 : Int) = 0 then some (0, S0, ov g') else EI X (d + 7) 118 41 [some (.inr (.inr 17)), none, none, some (.inl n), some (.inl (w32 (i + 1)))] [] S0 (ov g'))
      rw [if_neg (show ¬ (1 : Int) = 0 by omega), w32_id (x := i + 1) (by omega) (by omega)]
      exact Ok_mono (ih (i + 1) q' g' R' np' ns' D' oc' om' (by omega) (by omega) (by omega) b6 b1 b2 b3) (fun v g2 k2 => Pyc_tr (Fys_tr f1 b4) k2)
theorem c_118 (hb : isD b) (hb0 : isD b0) (hn : b ≠ b0) (iv : Iv N s) (hr : txR t n) (hx : ∀ i, 0 ≤ i → i < n → rd g 10 i = t i) (rw' : RWd g) (rr : RD g b0 s) (n1 : ∀ i, 0 ≤ i → i < s 0 → rd g (b0 + 11) i = nm i) (n2 : ∀ i, 0 ≤ i → i < s 1 → rd g (b0 + 12) i = nm (8 + i)) : Ok (Qyc b (s 0) (s 1) g (pYears0 t n s nm)) (MI X (d + 7) 118 [.inr (.inr 17), .inr (.inr b0), .inr (.inr (b + 13)), .inl n] S0 (ov g)) := by
  have q1 := isD_rng hb
  have q2 := isD_rng hb0
  have hsep : b + 20 < b0 ∨ b0 + 20 < b := by unfold isD at hb hb0; omega
  obtain ⟨n0, n9, -⟩ := id hr
  have u1 : unV 2 (.inr (.inr b0)) = some b0 := if_pos (by omega)
  have u2 : unV 2 (.inr (.inr (b + 13))) = some (b + 13) := if_pos (by omega)
  have u3 : unV 3 (.inl 0) = some 0 := rfl
  have u4 : unV 3 (.inl 1) = some 1 := rfl
  have e114 : ∀ h, MI X (d + 6) 114 [.inr (.inr (b + 13))] S0 (ov h) = some (0, S0, ov (wr (wr h (b + 13) 0 0) (b + 13) 1 0)) := fun h => by
    rw [e_114]
    simp only [u3, ↓oK_some, ↓P_yrs hb]
  have m3 : rd (wr (wr g 17 2 b0) 17 3 (b + 13)) 17 3 = b + 13 := rd_wr_eq _ _ _ _
  have m3' : rd (wr (wr (wr (wr g 17 2 b0) 17 3 (b + 13)) (b + 13) 0 0) (b + 13) 1 0) 17 3 = b + 13 := by
    rw [rd_wr_ne _ _ _ _ (by omega) (by omega) (by omega), rd_wr_ne _ _ _ _ (by omega) (by omega) (by omega)]; exact m3
  rw [e_118]
  simp only [u1, u2, u4, ↓oK_some, ↓P_yre, ↓G_yre, m3, ↓K_yrs hb, ↓oC_of (e114 _), m3', ↓P_yrs hb, ↓K_tok]
  generalize hg2 : wr (wr (wr (wr (wr (wr g 17 2 b0) 17 3 (b + 13)) (b + 13) 0 0) (b + 13) 1 0) (b + 13) 0 1) 17 4 0 = g2
  have f2 : ∀ c i, 0 ≤ c → 0 ≤ i → c ≠ 17 → c ≠ b + 13 → rd g2 c i = rd g c i := fun c i x y z w => by
    subst hg2
    rw [rd_wr_ne _ _ _ _ (by omega) x z, rd_wr_ne _ _ _ _ (by omega) x w, rd_wr_ne _ _ _ _ (by omega) x w, rd_wr_ne _ _ _ _ (by omega) x w, rd_wr_ne _ _ _ _ (by omega) x z, rd_wr_ne _ _ _ _ (by omega) x z]
  have k172 : rd g2 17 2 = b0 := by subst hg2; simp (disch := omega) only [rd_wr_ne, rd_wr_ix, rd_wr_eq]
  have k173 : rd g2 17 3 = b + 13 := by subst hg2; simp (disch := omega) only [rd_wr_ne, rd_wr_ix, rd_wr_eq]
  have k174 : rd g2 17 4 = 0 := by subst hg2; exact rd_wr_eq _ _ _ _
  have k130 : rd g2 (b + 13) 0 = 1 := by subst hg2; simp (disch := omega) only [rd_wr_ne, rd_wr_eq]
  have k131 : rd g2 (b + 13) 1 = 0 := by subst hg2; simp (disch := omega) only [rd_wr_ne, rd_wr_ix, rd_wr_eq]
  clear hg2
  obtain ⟨v3, g3, e3, cs3, cf3, f3⟩ := c_86 (X := X) (d := d + 3) (g := g2) (t := t) (n := n) hr (fun i x y => (f2 _ _ (by omega) (by omega) (by omega) (by omega)).trans (hx i x y))
  rw [oC_of e3]
  have sk := sk_b t (n := n) (p := 0) n0
  have k3 : ∀ c i, 0 ≤ c → 0 ≤ i → (c < 11 ∨ 14 < c) → c ≠ 17 → c ≠ b + 13 → rd g3 c i = rd g c i := fun c i x y z w v => (f3 c i x y z).trans (f2 c i x y w v)
  have yc0 : YC b b0 g3 s nm := by
    have dc : DC b0 g s nm → True := fun _ => trivial
    have k : ∀ c i, b0 ≤ c → c ≤ b0 + 20 → 0 ≤ i → rd g3 c i = rd g c i := fun c i x y z => k3 c i (by omega) z (by omega) (by omega) (by omega)
    refine ⟨(f3 _ _ (by omega) (by omega) (by omega)).trans k172, (f3 _ _ (by omega) (by omega) (by omega)).trans k173, RW_fr rw' (fun i x => k3 _ _ (by omega) x (by omega) (by omega) (by omega)), cf3, ?_, fun i x y => (k _ _ (by omega) (by omega) x).trans (n1 i x y), fun i x y => (k _ _ (by omega) (by omega) x).trans (n2 i x y)⟩
    obtain ⟨r0, r1, r2, rt, rm, rw', r6, r7⟩ := rr
    unfold RD
    rw [k b0 0 (by omega) (by omega) (by omega), k b0 1 (by omega) (by omega) (by omega), k b0 14 (by omega) (by omega) (by omega), k b0 15 (by omega) (by omega) (by omega), k b0 16 (by omega) (by omega) (by omega), k b0 17 (by omega) (by omega) (by omega), k b0 18 (by omega) (by omega) (by omega)]
    refine ⟨r0, r1, fun i x y => ?_, fun i x y => ?_, fun m x y => ?_, fun m o x y z w => ?_, r6, r7⟩
    · rw [k _ _ (by omega) (by omega) x]; exact r2 i x y
    · rw [k _ _ (by omega) (by omega) x, k _ _ (by omega) (by omega) x, k _ _ (by omega) (by omega) x, k _ _ (by omega) (by omega) x]; exact rt i x y
    · rw [k _ _ (by omega) (by omega) x, k _ _ (by omega) (by omega) x, k _ _ (by omega) (by omega) x, k _ _ (by omega) (by omega) x]; exact rm m x y
    · rw [k _ _ (by omega) (by omega) (by omega)]; exact rw' m o x y z w
  have ys0 : YSt b (s 0) (s 1) g3 (fun _ _ => 0) 0 0 0 (fun _ => 0) (fun _ => 0) := ⟨(f3 _ _ (by omega) (by omega) (by omega)).trans k130, (f3 _ _ (by omega) (by omega) (by omega)).trans k131, (f3 _ _ (by omega) (by omega) (by omega)).trans k174, fun l x y => by omega, ⟨0, rfl, rfl⟩, by omega⟩
  refine Ok_mono (c_118_l hb hb0 hn iv n9 (n + 1).toNat 0 (skP t n 0) g3 _ 0 0 0 _ _ (by omega) (by omega) sk.1 sk.2.1 yc0 ys0 cs3) ?_
  rintro v g' ⟨fd, h⟩
  refine ⟨fun c i x y z w l o => ?_, h⟩
  rw [fd c i x y (by omega) (by omega) l o]
  exact k3 c i x y z w (by omega)
end
