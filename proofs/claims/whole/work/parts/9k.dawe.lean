/-! a DAWN told, the class: the readers -/
theorem roR {w : Int} (w0 : 0 ≤ w) (w1 : w < 4) : 0 ≤ roLow w ∧ roHigh w < 100 := by
  have hw : w = 0 ∨ w = 1 ∨ w = 2 ∨ w = 3 := by omega
  rcases hw with rfl | rfl | rfl | rfl <;> decide
theorem nx_lt (t : Int → Int) {n q : Int} (h : kdP t n q ≠ 0) : q < nxP t n q ∧ nxP t n q ≤ n := by
  have hq : ¬ n ≤ q := fun z => h (kdP_0 z)
  have e := enP_b t (n := n) (q := q) hq
  have := sk_b t (n := n) (p := enP t n q) e.2
  show q < skP t n (enP t n q) ∧ skP t n (enP t n q) ≤ n
  omega
theorem nx_tr {t : Int → Int} {n q0 q : Int} (h : q0 < q ∧ q ≤ n) : q0 < nxP t n q ∧ nxP t n q ≤ n := by
  by_cases z : n ≤ q
  · have e : enP t n q = n := if_pos z
    show q0 < skP t n (enP t n q) ∧ skP t n (enP t n q) ≤ n
    rw [e]
    have := sk_b t (n := n) (p := n) (by omega)
    omega
  · have e := enP_b t (n := n) (q := q) z
    have := sk_b t (n := n) (p := enP t n q) e.2
    show q0 < skP t n (enP t n q) ∧ skP t n (enP t n q) ≤ n
    omega
section
variable {X : Xs} {d : Nat} {g : Mem} {t : Int → Int} {n q b N : Int} {s nm : Int → Int} {told : Int} {σ : Type} {P : Rr σ → Int → Mem → Prop} {f : Int → Sh → Mem → Option Rs}
theorem Ct_fr {g' : Mem} (h : Ct t n g q) (fr : ∀ i, 0 ≤ i → rd g' 11 i = rd g 11 i) : Ct t n g' q := by
  obtain ⟨a, c, e, z⟩ := h
  exact ⟨(fr _ (by omega)).trans a, (fr _ (by omega)).trans c, (fr _ (by omega)).trans e, (fr _ (by omega)).trans z⟩
theorem DSt_told (hb : isD b) (st : DSt b g s nm told) (x : Int) : DSt b (wr g 16 2 x) s nm x := by
  have hb2 := isD_rng hb
  obtain ⟨dc, e1, e2, rw', c1, c2⟩ := st
  exact ⟨DC_fr hb dc (fun c i y z v => rd_wr_ne _ _ _ _ (by omega) (by omega) (by omega)), by rw [rd_wr_ix _ _ (by omega) (by omega) (by omega)]; exact e1, rd_wr_eq _ _ _ _, RW_fr rw' (fun i a => rd_wr_ne _ _ _ _ (by omega) (by omega) (by omega)), by rw [rd_wr_ne _ _ _ _ (by omega) (by omega) (by omega)]; exact c1, by rw [rd_wr_ne _ _ _ _ (by omega) (by omega) (by omega)]; exact c2⟩
theorem DSt_rule (hb : isD b) (st : DSt b g s nm told) {w : Int} (x : Int) (w0 : 0 ≤ w) (w1 : w < 4) : DSt b (wr g (b + 1) w x) (us s (2 + w) x) nm told := by
  have hb2 := isD_rng hb
  obtain ⟨⟨rr, z, n1, n2⟩, e1, e2, rw', c1, c2⟩ := st
  have ne : ∀ c i, 0 ≤ c → c ≠ b + 1 → rd (wr g (b + 1) w x) c i = rd g c i := fun c i y v => rd_wr_ne _ _ _ _ (by omega) y v
  refine ⟨⟨RD_rule hb rr x w0 w1, fun i y v => (ne _ _ (by omega) (by omega)).trans (z i y v), fun i y v => (ne _ _ (by omega) (by omega)).trans (n1 i y (by rw [us_ne _ _ (by omega)] at v; exact v)), fun i y v => (ne _ _ (by omega) (by omega)).trans (n2 i y (by rw [us_ne _ _ (by omega)] at v; exact v))⟩, (ne _ _ (by omega) (by omega)).trans e1, (ne _ _ (by omega) (by omega)).trans e2, RW_fr rw' (fun i a => ne _ _ (by omega) (by omega)), (ne _ _ (by omega) (by omega)).trans c1, (ne _ _ (by omega) (by omega)).trans c2⟩
theorem DSt_held (hb : isD b) (st : DSt b g s nm told) (pu : PU s) {m : Int} (x : Int) (m0 : 0 ≤ m) : DSt b (wr g (b + 9) m x) (us s (44 + 10 * m + 3) x) nm told := by
  have hb2 := isD_rng hb
  obtain ⟨⟨rr, z, n1, n2⟩, e1, e2, rw', c1, c2⟩ := st
  have ne : ∀ c i, 0 ≤ c → c ≠ b + 9 → rd (wr g (b + 9) m x) c i = rd g c i := fun c i y v => rd_wr_ne _ _ _ _ (by omega) y v
  have r3 := RD_um hb rr pu.1.2.1 pu.1.2.2.2.1 (w0 := 3) x m0 (by omega)
  rw [show b + 6 + 3 = b + 9 by omega] at r3
  refine ⟨⟨r3, fun i y v => (ne _ _ (by omega) (by omega)).trans (z i y v), fun i y v => (ne _ _ (by omega) (by omega)).trans (n1 i y (by rw [us_ne _ _ (by omega)] at v; exact v)), fun i y v => (ne _ _ (by omega) (by omega)).trans (n2 i y (by rw [us_ne _ _ (by omega)] at v; exact v))⟩, (ne _ _ (by omega) (by omega)).trans e1, (ne _ _ (by omega) (by omega)).trans e2, RW_fr rw' (fun i a => ne _ _ (by omega) (by omega)), (ne _ _ (by omega) (by omega)).trans c1, (ne _ _ (by omega) (by omega)).trans c2⟩
theorem DSt_mn (hb : isD b) (st : DSt b g s nm told) (pu : PU s) (h1 : s 1 < 6) (v p l : Int) : DSt b (mnG g b (s 1) v p l) (mnS s p l) (us nm (8 + s 1) v) told ∧ (∀ c i, 0 ≤ c → 0 ≤ i → (c < b ∨ b + 12 < c) → rd (mnG g b (s 1) v p l) c i = rd g c i) := by
  have hb2 := isD_rng hb
  obtain ⟨⟨rr, z, n1, n2⟩, e1, e2, rw', c1, c2⟩ := st
  have i0 := pu.1.2.2.1
  have i1 := pu.1.2.1
  obtain ⟨f1, -, -, -, -, f6⟩ := mn_all p l i0
  have fr : ∀ c i, 0 ≤ c → 0 ≤ i → (c < b ∨ b + 12 < c) → rd (mnG g b (s 1) v p l) c i = rd g c i := fun c i a e h => by
    unfold mnG; simp (disch := omega) only [rd_wr_ne]
  refine ⟨⟨⟨RD_mn hb rr i1 i0 h1 z pu.2.2.2 _ _ _, fun i x y => ?_, fun i x y => ?_, fun i x y => ?_⟩, ?_, ?_, RW_fr rw' (fun i a => fr _ _ (by omega) a (by omega)), ?_, ?_⟩, fr⟩
  · unfold mnG; simp (disch := omega) only [rd_wr_ne]; exact z i x y
  · rw [f6 0 (by omega) (by omega)] at y
    rw [us_ne _ _ (by omega)]
    unfold mnG; simp (disch := omega) only [rd_wr_ne]; exact n1 i x y
  · rw [f1] at y
    have e : rd (mnG g b (s 1) v p l) (b + 12) i = if i = s 1 then v else rd g (b + 12) i := by
      unfold mnG
      simp (disch := omega) only [rd_wr_ne, rd_wr_if]
    rw [e]
    unfold us
    by_cases w' : i = s 1
    · rw [if_pos w', if_pos (by omega)]
    · rw [if_neg w', if_neg (by omega)]; exact n2 i x (by omega)
  · rw [fr _ _ (by omega) (by omega) (by omega)]; exact e1
  · rw [fr _ _ (by omega) (by omega) (by omega)]; exact e2
  · rw [fr _ _ (by omega) (by omega) (by omega)]; exact c1
  · rw [fr _ _ (by omega) (by omega) (by omega)]; exact c2
theorem c_21 (hb : isD b) (rr : RD g b s) (h0 : 0 ≤ s 1) (h1 : s 1 < 6) (v p l : Int) : MI X d 21 [.inr (.inr b), .inr (.inl v), .inl p, .inl l] S0 (ov g) = some (s 1, S0, ov (mnG g b (s 1) v p l)) := by
  have hb2 := isD_rng hb
  have r0 := rr.2.1
  rw [e_21]
  simp (disch := omega) only [↓K_daw hb, ↓G_daw hb, ↓P_daw hb, ↓as_D6 hb, ↓as_D7 hb, ↓as_D8 hb, ↓as_D9 hb, ↓as_D12 hb, r0, w32_id]
  rfl
theorem Fdw_b (hb : isD b) {g g' : Mem} (h : ∀ c i, 0 ≤ c → 0 ≤ i → (c < b ∨ b + 12 < c) → rd g' c i = rd g c i) : Fdw b g g' := fun c i x y z w v => h c i x y v
theorem Cs_b (hb : isD b) {g g' : Mem} (cs : Cs t n g q) (h : ∀ c i, 0 ≤ c → 0 ≤ i → (c < b ∨ b + 12 < c) → rd g' c i = rd g c i) : Cs t n g' q := by
  have hb2 := isD_rng hb
  exact Cs_fr cs (fun c i x y z => h c i (by omega) z (by omega))
/-- how a part of a DAWN ends well, ends ill -/
abbrev gdP (t : Int → Int) (n b : Int) (g : Mem) (s nm : Int → Int) (told q0 q : Int) (g' : Mem) : Prop := DSt b g' s nm told ∧ PU s ∧ Cs t n g' q ∧ Fdw b g g' ∧ q0 < q ∧ q ≤ n
theorem k_48 (hb : isD b) (st : DSt b g s nm told) (pu : PU s) (hk : kdP t n q ≠ 0) (ct : Ct t n g q) (cs : Cs t n g (nxP t n q)) {w : Int} (w0 : 0 ≤ w) (w1 : w < 4) {K : Int → (Int → Int) → Int → Rr σ} (hs : ∀ q' s' told' g', gdP t n b g s' nm told' q q' g' → Ok (P (K q' s' told')) (f 1 S0 (ov g'))) (hf : ∀ c p g', Fdw b g g' → Cf g' c p → Ok (P (.inl (c, p))) (f 0 S0 (ov g'))) : Ok (P (pRule t n q w s told K)) (oC (MI X (d + 2) 48 [.inr (.inr 16), .inl w] S0 (ov g)) f) := by
  have hb2 := isD_rng hb
  have ro := roR w0 w1
  rw [e_48]
  unfold pRule
  simp only [↓G_dre, ↓K_tok, st.2.2.1]
  by_cases z : am_and (am_shr told w) 1 = 0
  · rw [if_pos z, if_pos z]
    have st1 := DSt_told hb st (am_or told (am_shl 1 w))
    have cs1 : Cs t n (wr g 16 2 (am_or told (am_shl 1 w))) (nxP t n q) := Cs_fr cs (fun c i x y v => rd_wr_ne _ _ _ _ (by omega) (by omega) (by omega))
    have f1 : Fdw b g (wr g 16 2 (am_or told (am_shl 1 w))) := fun c i x y v u l => by
      by_cases z : c = 16
      · subst z; exact rd_wr_ix _ _ (by omega) y (by omega)
      · exact rd_wr_ne _ _ _ _ (by omega) x z
    simp (disch := omega) only [↓P_dre, ↓G_dre, ↓K_tok, ↓al_low, ↓al_high]
    generalize wr g 16 2 (am_or told (am_shl 1 w)) = g1 at st1 cs1 f1 ⊢
    rw [oC_as]
    refine k_97 st1.2.2.2.1 cs1 _ _ ro.1 (by omega) (fun a c g2 fo ct2 cs2 => ?_) (fun c g2 fk cf => hf _ _ g2 (Fdw_tr f1 (Fdw_FK fk)) cf)
    have st2 := DSt_rule hb (DSt_FO hb st1 fo) (vaP t n (nxP t n q)) w0 w1
    have pu2 := PU_rule pu w0 w1 a c
    have nb : ∀ c i, 0 ≤ c → 0 ≤ i → (c < b ∨ b + 12 < c) → rd (wr g2 (b + 1) w (vaP t n (nxP t n q))) c i = rd g2 c i := fun c i x y v => rd_wr_ne _ _ _ _ (by omega) x (by omega)
    have cs3 := Cs_b hb cs2 nb
    have f3 := Fdw_tr (Fdw_tr f1 (Fdw_FO fo)) (Fdw_b hb nb)
    have e1 := (DSt_FO hb st1 fo).2.1
    simp (disch := omega) only [↓if_neg, ↓G_dre, e1, ↓G_daw hb, ↓as_D1 hb, ↓K_tok]
    generalize wr g2 (b + 1) w (vaP t n (nxP t n q)) = g3 at st2 cs3 f3 ⊢
    rw [oC_as]
    refine k_95 st2.2.2.2.1 cs3 (fun _ g4 fo4 ct4 cs4 => ?_) (fun g4 fk cf => ?_)
    · exact hs _ _ _ g4 ⟨DSt_FO hb st2 fo4, pu2, cs4, Fdw_tr f3 (Fdw_FO fo4), nx_tr (nx_tr (nx_lt t hk))⟩
    · exact hf _ _ g4 (Fdw_tr f3 (Fdw_FK fk)) cf
  · rw [if_neg z, if_neg z]
    rw [oC_as]
    exact k_93 ct 5 (fun g2 fk cf => hf _ _ g2 (Fdw_FK fk) cf)
theorem k_49 (hb : isD b) (st : DSt b g s nm told) (pu : PU s) (hk : kdP t n q ≠ 0) (ct : Ct t n g q) (cs : Cs t n g (nxP t n q)) {K : Int → (Int → Int) → (Int → Int) → Rr σ} (hs : ∀ q' s' nm' g', gdP t n b g s' nm' told q q' g' → Ok (P (K q' s' nm')) (f 1 S0 (ov g'))) (hf : ∀ c p g', Fdw b g g' → Cf g' c p → Ok (P (.inl (c, p))) (f 0 S0 (ov g'))) : Ok (P (pThing t n q s nm K)) (oC (MI X (d + 3) 49 [.inr (.inr 16)] S0 (ov g)) f) := by
  have hb2 := isD_rng hb
  obtain ⟨i0, i1, -⟩ := id pu.1
  rw [e_49]
  unfold pThing
  simp only [↓G_dre, st.2.1, ↓G_daw hb, st.1.1.1, ↓K_dre, ↓K_tok]
  by_cases z : s 0 < 8
  · rw [if_pos z, if_pos z, oC_as]
    refine k_52 hb st pu cs (fun g1 fo1 ct1 cs1 => ?_) (fun c p g1 fk cf => hf _ _ g1 (Fdw_FK fk) cf)
    simp only [Int.reduceEq, ↓reduceIte, ↓G_dre, ↓G_tok, ct1.2.1, ↓K_dre]
    rw [oC_as]
    refine k_51 (RWd_FO st.2.2.2.1 fo1) cs1 5 1 6 (by omega) (by omega) (by omega) (fun r g2 r0 r1 fo2 cs2 => ?_) (fun c p g2 fk cf => ?_)
    case refine_2 => exact hf _ _ g2 (Fdw_tr (Fdw_FO fo1) (Fdw_FK fk)) cf
    rw [if_neg (show ¬ r = -1 by omega)]
    simp only [↓K_dre]
    rw [oC_as]
    have fo12 := FO_tr fo1 fo2
    refine k_51 (RWd_FO st.2.2.2.1 fo12) cs2 6 0 9 (by omega) (by omega) (by omega) (fun w g3 w0 w1 fo3 cs3 => ?_) (fun c p g2 fk cf => ?_)
    case refine_2 => exact hf _ _ g2 (Fdw_tr (Fdw_FO fo12) (Fdw_FK fk)) cf
    rw [if_neg (show ¬ w = -1 by omega)]
    simp only [↓K_dre]
    rw [oC_as]
    have fo13 := FO_tr fo12 fo3
    refine k_51 (RWd_FO st.2.2.2.1 fo13) cs3 7 1 30 (by omega) (by omega) (by omega) (fun k g4 k0 k1 fo4 cs4 => ?_) (fun c p g2 fk cf => ?_)
    case refine_2 => exact hf _ _ g2 (Fdw_tr (Fdw_FO fo13) (Fdw_FK fk)) cf
    rw [if_neg (show ¬ k = -1 by omega)]
    have fo14 := FO_tr fo13 fo4
    have st4 := DSt_FO hb st fo14
    obtain ⟨st5, nb⟩ := DSt_fg hb st4 pu z (vaP t n (nxP t n q)) r w k
    have pu5 := PU_fg pu z (r := r) (w := w) (k := k) ⟨⟨r0, r1⟩, ⟨w0, w1⟩, k0, k1⟩
    have cs5 := Cs_b hb cs4 nb
    have f5 := Fdw_tr (Fdw_FO (b := b) fo14) (Fdw_b hb nb)
    simp only [↓G_dre, st4.2.1, ↓K_daw hb, ↓oC_of (c_20 hb st4.1.1 i0 z _ _ _ _), ↓K_tok]
    generalize fgG g4 b (s 0) (vaP t n (nxP t n q)) r w k = g5 at st5 cs5 f5 ⊢
    rw [oC_as]
    refine k_95 st5.2.2.2.1 cs5 (fun _ g6 fo6 ct6 cs6 => ?_) (fun g6 fk cf => ?_)
    · exact hs _ _ _ g6 ⟨DSt_FO hb st5 fo6, pu5, cs6, Fdw_tr f5 (Fdw_FO fo6), nx_tr (nx_tr (nx_tr (nx_tr (nx_tr (nx_tr (nx_tr (nx_tr (nx_lt t hk))))))))⟩
    · exact hf _ _ g6 (Fdw_tr f5 (Fdw_FK fk)) cf
  · rw [if_neg z, if_neg z, oC_as]
    exact k_93 ct 6 (fun g2 fk cf => hf _ _ g2 (Fdw_FK fk) cf)
end
