/-! YEARS told, the class: a test; the rest of a STEP -/
section
variable {X : Xs} {d : Nat} {g : Mem} {t : Int → Int} {n q b b0 a N : Int} {s nm : Int → Int} {σ : Type} {P : Rr σ → Int → Mem → Prop} {f : Int → Sh → Mem → Option Rs}
abbrev qUp (n q q' : Int) : Prop := ∀ q0, q0 < q ∧ q ≤ n → q0 < q' ∧ q' ≤ n
theorem Fsk_st2 {g1 g2 : Mem} (h1 : Fst b a g g1) (h2 : Fsk b a g1 g2) : Fsk b a g g2 := fun c i x y z w => (h2 c i x y z w).trans (h1 c i x y (by omega) w)
theorem Fsk_wr {g1 : Mem} (h1 : Fsk b a g g1) {c0 : Int} (x : Int) (h : b + 15 ≤ c0 ∧ c0 ≤ b + 19) (b0 : 19 ≤ b) (a0 : 0 ≤ a) : Fsk b a g (wr g1 c0 a x) := fun c i y z u w => by
  rw [← h1 c i y z u w]
  by_cases e : c = c0
  · subst e; exact rd_wr_ix _ _ a0 z (by omega)
  · exact rd_wr_ne _ _ _ _ (by omega) y e
theorem Cf_wr {g1 : Mem} {c p : Int} (h : Cf g1 c p) {c0 : Int} (x : Int) (h0 : 15 ≤ c0) : Cf (wr g1 c0 a x) c p := ⟨(rd_wr_ne _ _ _ _ (by omega) (by omega) (by omega)).trans h.1, (rd_wr_ne _ _ _ _ (by omega) (by omega) (by omega)).trans h.2⟩
theorem k_122 (hb : isD b) (hb0 : isD b0) (hn : b ≠ b0) (yc : YC b b0 g s nm) (iv : Iv N s) (a0 : 0 ≤ a) (a1 : a < 30) (cs : kdP t n q ≠ 0 → kdP t n q ≠ 4 → Cs t n g (nxP t n q)) (ct : Ct t n g q) {K : Int → (Int → Int) → Rr σ} (hs : ∀ q' r g', okO (s 0) (s 1) 19 (rd g' (b + 15) a) (rd g' (b + 17) a) (rd g' (b + 19) a) → mO r 19 (rd g' (b + 15) a) (rd g' (b + 16) a) (rd g' (b + 17) a) (rd g' (b + 19) a) → Fst b a g g' → Cs t n g' q' → qUp n q q' → Ok (P (K q' r)) (f 1 S0 (ov g'))) (hf : ∀ c p g', Fsk b a g g' → Cf g' c p → Ok (P (.inl (c, p))) (f 0 S0 (ov g'))) : Ok (P (pTest t n q s nm K)) (oC (MI X (d + 3) 122 [.inr (.inr 17), .inl a, .inl (wdP t n q)] S0 (ov g)) f) := by
  have q1 := isD_rng hb
  have cs' : 0 ≤ wdP t n q → Cs t n g (nxP t n q) := fun h => by
    have := wd_k h
    exact cs (by omega) (by omega)
  rw [e_122]
  simp (disch := omega) only [↓G_yre, yc.2.1, ↓G_yrs hb, ↓as_D15 hb]
  have f1 : Fst b a g (wr g (b + 15) a (wdP t n q)) := Fst_wr g _ (by omega) (by omega) a0
  have y1 := YC_st hb hb0 hn yc f1
  have e15 : rd (wr g (b + 15) a (wdP t n q)) (b + 15) a = wdP t n q := rd_wr_eq _ _ _ _
  have ct1 : Ct t n (wr g (b + 15) a (wdP t n q)) q := Ct_fr ct (fun i _ => rd_wr_ne _ _ _ _ (by omega) (by omega) (by omega))
  have cs1 : 0 ≤ wdP t n q → Cs t n (wr g (b + 15) a (wdP t n q)) (nxP t n q) := fun h => Cs_fr (cs' h) (fun c i x y z => rd_wr_ne _ _ _ _ (by omega) (by omega) (by omega))
  generalize wr g (b + 15) a (wdP t n q) = g1 at f1 y1 e15 ct1 cs1 ⊢
  unfold pTest
  generalize hw : wdP t n q = w at e15 cs1 ⊢
  have bad : ∀ {G : Mem}, Fst b a g G → ∀ c p g', FK G g' → Cf g' c p → Ok (P (.inl (c, p))) (f 0 S0 (ov g')) := fun fG c p g' fk cf => hf c p g' (Fsk_st fG fk) cf
  have badw : ∀ {G : Mem} (c0 x : Int), (b + 15 ≤ c0 ∧ c0 ≤ b + 19) → Fst b a g G → ∀ c p g', FK G g' → Cf g' c p → Ok (P (.inl (c, p))) (f 0 S0 (ov (wr g' c0 a x))) := fun c0 x hc fG c p g' fk cf => hf c p _ (Fsk_wr (Fsk_st fG fk) x hc (by omega) a0) (Cf_wr cf x (by omega))
  by_cases w10 : w = 10
  · subst w10
    rw [if_pos rfl, if_neg (by omega), if_pos rfl]
    simp only [↓G_yre, y1.2.1, ↓G_yrs hb, ↓K_yre]
    rw [oC_as]
    refine k_125 hb hb0 hn y1 iv (cs1 (by omega)) (fun m g2 m0 m1 fo2 cs2 => ?_) (fun c p g2 fk cf => ?_)
    case refine_2 =>
      have e3 : rd (wr g2 (b + 17) a (-1)) 17 3 = b + 13 := by
        rw [rd_wr_ne _ _ _ _ (by omega) (by omega) (by omega), fk _ _ (by omega) (by omega) (by omega)]; exact y1.2.1
      simp (disch := omega) only [↓as_D17 hb, ↓G_yre, e3, ↓G_yrs hb, ↓al_D17 X hb, rd_wr_eq]
      simp only [↓reduceIte]
      exact badw _ _ (by omega) f1 c p g2 fk cf
    have f2 : Fst b a g (wr g2 (b + 17) a m) := Fst_tr (Fst_tr f1 (Fst_FO fo2)) (Fst_wr _ _ (by omega) (by omega) a0)
    have y2 := YC_st hb hb0 hn yc f2
    have k15 : rd (wr g2 (b + 17) a m) (b + 15) a = 10 := by
      rw [rd_wr_ne _ _ _ _ (by omega) (by omega) (by omega), fo2 _ _ (by omega) (by omega) (by omega)]; exact e15
    have k17 : rd (wr g2 (b + 17) a m) (b + 17) a = m := rd_wr_eq _ _ _ _
    have cs2' : Cs t n (wr g2 (b + 17) a m) (nx2 t n q) := Cs_fr cs2 (fun c i x y z => rd_wr_ne _ _ _ _ (by omega) (by omega) (by omega))
    simp (disch := omega) only [↓as_D17 hb, ↓G_yre, y2.2.1, ↓G_yrs hb, ↓al_D17 X hb, k17, ↓K_yre]
    generalize wr g2 (b + 17) a m = g3 at f2 y2 k15 k17 cs2' ⊢
    rw [if_neg (show ¬ m = -1 by omega), oC_as]
    refine k_123 hb hb0 hn y2 a0 a1 cs2' (fun c g4 hc fo4 cs4 => ?_) (fun c p g4 fk cf => bad f2 c p g4 fk cf)
    simp only [Int.reduceEq, ↓reduceIte, ↓K_yre]
    have f4 : Fst b a g (wr g4 (b + 16) a c) := Fst_tr (Fst_tr f2 (Fst_FO fo4)) (Fst_wr _ _ (by omega) (by omega) a0)
    have y4 := YC_st hb hb0 hn yc f4
    have cs4' : Cs t n (wr g4 (b + 16) a c) (nxP t n (nx2 t n q)) := Cs_fr cs4 (fun c i x y z => rd_wr_ne _ _ _ _ (by omega) (by omega) (by omega))
    have j15 : rd (wr g4 (b + 16) a c) (b + 15) a = 10 := by
      rw [rd_wr_ne _ _ _ _ (by omega) (by omega) (by omega), fo4 _ _ (by omega) (by omega) (by omega)]; exact k15
    have j17 : rd (wr g4 (b + 16) a c) (b + 17) a = m := by
      rw [rd_wr_ne _ _ _ _ (by omega) (by omega) (by omega), fo4 _ _ (by omega) (by omega) (by omega)]; exact k17
    have j16 : rd (wr g4 (b + 16) a c) (b + 16) a = c := rd_wr_eq _ _ _ _
    generalize wr g4 (b + 16) a c = g5 at f4 y4 cs4' j15 j16 j17 ⊢
    rw [oC_as]
    refine k_124 hb hb0 hn y4 a0 a1 cs4' 0 60 (by omega) (by omega) (fun z g6 z0 z1 fo6 cs6 => ?_) (fun c p g6 fk cf => badw _ _ (by omega) f4 c p g6 fk cf)
    have i15 : rd (wr g6 (b + 19) a z) (b + 15) a = 10 := by
      rw [rd_wr_ne _ _ _ _ (by omega) (by omega) (by omega), fo6 _ _ (by omega) (by omega) (by omega)]; exact j15
    have i17 : rd (wr g6 (b + 19) a z) (b + 17) a = m := by
      rw [rd_wr_ne _ _ _ _ (by omega) (by omega) (by omega), fo6 _ _ (by omega) (by omega) (by omega)]; exact j17
    have i16 : rd (wr g6 (b + 19) a z) (b + 16) a = c := by
      rw [rd_wr_ne _ _ _ _ (by omega) (by omega) (by omega), fo6 _ _ (by omega) (by omega) (by omega)]; exact j16
    have i19 : rd (wr g6 (b + 19) a z) (b + 19) a = z := rd_wr_eq _ _ _ _
    refine hs _ _ _ ?_ ?_ (Fst_tr (Fst_tr f4 (Fst_FO fo6)) (Fst_wr _ _ (by omega) (by omega) a0)) (Cs_fr cs6 (fun c i x y z => rd_wr_ne _ _ _ _ (by omega) (by omega) (by omega))) (fun q0 h => nx_tr (nx_tr (nx_tr (nx_tr h))))
    · rw [i15, i17, i19]; exact Or.inr ⟨rfl, Or.inr (Or.inl ⟨rfl, m0, m1⟩)⟩
    · rw [i15, i16, i17, i19]
      exact ⟨fun x => by omega, fun _ => ⟨fun x => by omega, fun _ => ⟨rfl, rfl, rfl, rfl⟩, fun x => by omega, fun x => by omega⟩⟩
  rw [if_neg w10]
  by_cases w20 : w = 20
  · subst w20
    rw [if_pos rfl, if_neg (show ¬ (20 : Int) = 10 by omega), if_pos rfl]
    simp only [↓K_yre]
    rw [oC_as]
    refine k_123 hb hb0 hn y1 a0 a1 (cs1 (by omega)) (fun c g4 hc fo4 cs4 => ?_) (fun c p g4 fk cf => bad f1 c p g4 fk cf)
    have f4 : Fst b a g (wr g4 (b + 16) a c) := Fst_tr (Fst_tr f1 (Fst_FO fo4)) (Fst_wr _ _ (by omega) (by omega) a0)
    have y4 := YC_st hb hb0 hn yc f4
    have cs4' : Cs t n (wr g4 (b + 16) a c) (nx2 t n q) := Cs_fr cs4 (fun c i x y z => rd_wr_ne _ _ _ _ (by omega) (by omega) (by omega))
    have j15 : rd (wr g4 (b + 16) a c) (b + 15) a = 20 := by
      rw [rd_wr_ne _ _ _ _ (by omega) (by omega) (by omega), fo4 _ _ (by omega) (by omega) (by omega)]; exact e15
    have j16 : rd (wr g4 (b + 16) a c) (b + 16) a = c := rd_wr_eq _ _ _ _
    have h12 : roHigh 0 = 12 := rfl
    simp (disch := omega) only [Int.reduceEq, ↓reduceIte, ↓K_yre, ↓al_high, h12]
    generalize wr g4 (b + 16) a c = g5 at f4 y4 cs4' j15 j16 ⊢
    rw [oC_as]
    refine k_124 hb hb0 hn y4 a0 a1 cs4' 0 12 (by omega) (by omega) (fun z g6 z0 z1 fo6 cs6 => ?_) (fun c p g6 fk cf => badw _ _ (by omega) f4 c p g6 fk cf)
    have i15 : rd (wr g6 (b + 19) a z) (b + 15) a = 20 := by
      rw [rd_wr_ne _ _ _ _ (by omega) (by omega) (by omega), fo6 _ _ (by omega) (by omega) (by omega)]; exact j15
    have i16 : rd (wr g6 (b + 19) a z) (b + 16) a = c := by
      rw [rd_wr_ne _ _ _ _ (by omega) (by omega) (by omega), fo6 _ _ (by omega) (by omega) (by omega)]; exact j16
    have i19 : rd (wr g6 (b + 19) a z) (b + 19) a = z := rd_wr_eq _ _ _ _
    refine hs _ _ _ ?_ ?_ (Fst_tr (Fst_tr f4 (Fst_FO fo6)) (Fst_wr _ _ (by omega) (by omega) a0)) (Cs_fr cs6 (fun c i x y z => rd_wr_ne _ _ _ _ (by omega) (by omega) (by omega))) (fun q0 h => nx_tr (nx_tr (nx_tr h)))
    · rw [i15]; exact Or.inr ⟨rfl, Or.inl rfl⟩
    · rw [i15, i16, i19]
      exact ⟨fun x => by omega, fun _ => ⟨fun _ => ⟨rfl, rfl, rfl⟩, fun x => by omega, fun x => by omega, fun x => by omega⟩⟩
  rw [if_neg w20]
  by_cases w21 : w = 21
  · subst w21
    rw [if_pos rfl, if_neg (by omega), if_neg (by omega), if_pos rfl]
    simp only [↓G_yre, y1.2.1, ↓G_yrs hb, ↓K_yre]
    rw [oC_as]
    refine k_126 hb hb0 hn y1 iv (cs1 (by omega)) (fun m g2 m0 m1 fo2 cs2 => ?_) (fun c p g2 fk cf => ?_)
    case refine_2 =>
      have e3 : rd (wr g2 (b + 17) a (-1)) 17 3 = b + 13 := by
        rw [rd_wr_ne _ _ _ _ (by omega) (by omega) (by omega), fk _ _ (by omega) (by omega) (by omega)]; exact y1.2.1
      simp (disch := omega) only [↓as_D17 hb, ↓G_yre, e3, ↓G_yrs hb, ↓al_D17 X hb, rd_wr_eq]
      simp only [↓reduceIte]
      exact badw _ _ (by omega) f1 c p g2 fk cf
    have f2 : Fst b a g (wr g2 (b + 17) a m) := Fst_tr (Fst_tr f1 (Fst_FO fo2)) (Fst_wr _ _ (by omega) (by omega) a0)
    have y2 := YC_st hb hb0 hn yc f2
    have k15 : rd (wr g2 (b + 17) a m) (b + 15) a = 21 := by
      rw [rd_wr_ne _ _ _ _ (by omega) (by omega) (by omega), fo2 _ _ (by omega) (by omega) (by omega)]; exact e15
    have k17 : rd (wr g2 (b + 17) a m) (b + 17) a = m := rd_wr_eq _ _ _ _
    have cs2' : Cs t n (wr g2 (b + 17) a m) (nx2 t n q) := Cs_fr cs2 (fun c i x y z => rd_wr_ne _ _ _ _ (by omega) (by omega) (by omega))
    simp (disch := omega) only [↓as_D17 hb, ↓G_yre, y2.2.1, ↓G_yrs hb, ↓al_D17 X hb, k17]
    rw [if_neg (show ¬ m = -1 by omega)]
    refine hs _ _ _ ?_ ?_ f2 cs2' (fun q0 h => nx_tr (nx_tr h))
    · rw [k15, k17]; exact Or.inr ⟨rfl, Or.inr (Or.inr (Or.inl ⟨rfl, m0, m1⟩))⟩
    · rw [k15, k17]
      exact ⟨fun x => by omega, fun _ => ⟨fun x => by omega, fun x => by omega, fun _ => ⟨rfl, rfl⟩, fun x => by omega⟩⟩
  rw [if_neg w21]
  by_cases w22 : w = 22
  · subst w22
    rw [if_pos rfl, if_neg (by omega), if_neg (by omega), if_neg (by omega), if_pos rfl]
    refine hs _ _ g1 ?_ ?_ f1 (cs1 (by omega)) (fun q0 h => nx_tr h)
    · rw [e15]; exact Or.inr ⟨rfl, Or.inr (Or.inr (Or.inr rfl))⟩
    · rw [e15]
      exact ⟨fun x => by omega, fun _ => ⟨fun x => by omega, fun x => by omega, fun x => by omega, fun _ => rfl⟩⟩
  rw [if_neg w22, if_neg w20, if_neg w10, if_neg w21, if_neg w22]
  simp only [↓G_yre, ↓K_tok]
  rw [oC_as]
  exact k_93 ct1 2 (fun g2 fk cf => bad f1 _ _ g2 fk cf)
end
