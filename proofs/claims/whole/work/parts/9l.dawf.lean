/-! a DAWN told, the class: MAN, all of it -/
section
variable {X : Xs} {d : Nat} {g : Mem} {t : Int → Int} {n q b N : Int} {s nm : Int → Int} {told : Int} {σ : Type} {P : Rr σ → Int → Mem → Prop} {f : Int → Sh → Mem → Option Rs}
theorem fn1_r (s nm : Int → Int) (v : Int) (h : 0 ≤ s 0) : fn1 s nm v = -1 ∨ (0 ≤ fn1 s nm v ∧ fn1 s nm v < s 0) := by
  have := ff_le (fun i => decide (nm i = v)) (s 0).toNat 0
  unfold fn1
  omega
theorem fn2_r (s nm : Int → Int) (v : Int) (h : 0 ≤ s 1) : fn2 s nm v = -1 ∨ (0 ≤ fn2 s nm v ∧ fn2 s nm v < s 1) := by
  have := ff_le (fun i => decide (nm (8 + i) = v)) (s 1).toNat 0
  unfold fn2
  omega
theorem k_53 (hb : isD b) (st : DSt b g s nm told) (pu : PU s) (cs : Cs t n g q) {m : Int} (m0 : 0 ≤ m) (m1 : m < s 1) {K : Int → Rr σ} (hs : ∀ h g', DSt b g' (us s (44 + 10 * m + 3) h) nm told → PU (us s (44 + 10 * m + 3) h) → Cs t n g' (nxP t n q) → Fdw b g g' → Ok (P (K h)) (f 1 S0 (ov g'))) (hf : ∀ c p g', Fdw b g g' → Cf g' c p → Ok (P (.inl (c, p))) (f 0 S0 (ov g'))) : Ok (P (pHeld t n q s nm K)) (oC (MI X (d + 2) 53 [.inr (.inr 16), .inl m] S0 (ov g)) f) := by
  have hb2 := isD_rng hb
  obtain ⟨i0, i1, i2, i3, -⟩ := id pu.1
  rw [e_53]
  simp only [↓G_dre, ↓K_tok]
  rw [oC_as]
  refine k_98 st.2.2.2.1 cs (fun h1 h2 g1 fo1 ct1 cs1 => ?_) (fun g1 fk cf => hf _ _ g1 (Fdw_FK fk) cf)
  have st1 := DSt_FO hb st fo1
  obtain ⟨⟨r, -, n1, n2⟩, e1, -, -, -⟩ := id st1
  simp only [Int.reduceEq, ↓reduceIte, ↓G_dre, ↓G_tok, ct1.2.1, e1, ↓K_daw hb, ↓K_tok, ↓oC_of (c_25 hb r pu.1 n1 _)]
  have fr := fn1_r s nm (vaP t n q) i0
  generalize fn1 s nm (vaP t n q) = x at fr ⊢
  by_cases z : x = -1
  · rw [if_pos z, if_pos z, oC_as]
    refine k_93 ct1 3 (fun g2 fk cf => ?_)
    exact hf _ _ g2 (Fdw_tr (Fdw_FO fo1) (Fdw_FK fk)) cf
  · rw [if_neg z, if_neg z]
    simp only [↓oC_of (c_27 hb r pu.1 _), ↓G_dre, ↓K_tok, e1]
    by_cases w : hoN s x = -1
    · rw [if_pos w, if_pos w]
      have st2 := DSt_held hb st1 pu x m0
      have pu2 := PU_held pu m0 m1 (by omega) (by omega) w
      have nb : ∀ c i, 0 ≤ c → 0 ≤ i → (c < b ∨ b + 12 < c) → rd (wr g1 (b + 9) m x) c i = rd g1 c i := fun c i y v z => rd_wr_ne _ _ _ _ (by omega) y (by omega)
      simp (disch := omega) only [↓G_daw hb, ↓as_D9 hb]
      exact hs x _ st2 pu2 (Cs_b hb cs1 nb) (Fdw_tr (Fdw_FO fo1) (Fdw_b hb nb))
    · rw [if_neg w, if_neg w, oC_as]
      refine k_93 ct1 5 (fun g2 fk cf => ?_)
      exact hf _ _ g2 (Fdw_tr (Fdw_FO fo1) (Fdw_FK fk)) cf
theorem k_50 (hb : isD b) (st : DSt b g s nm told) (pu : PU s) (hk : kdP t n q ≠ 0) (ct : Ct t n g q) (cs : Cs t n g (nxP t n q)) {K : Int → (Int → Int) → (Int → Int) → Rr σ} (hs : ∀ q' s' nm' g', gdP t n b g s' nm' told q q' g' → Ok (P (K q' s' nm')) (f 1 S0 (ov g'))) (hf : ∀ c p g', Fdw b g g' → Cf g' c p → Ok (P (.inl (c, p))) (f 0 S0 (ov g'))) : Ok (P (pMan t n q s nm K)) (oC (MI X (d + 3) 50 [.inr (.inr 16)] S0 (ov g)) f) := by
  have hb2 := isD_rng hb
  obtain ⟨i0, i1, i2, i3, -⟩ := id pu.1
  rw [e_50]
  unfold pMan
  simp only [↓G_dre, st.2.1, ↓G_daw hb, st.1.1.2.1, ↓K_dre, ↓K_tok]
  by_cases z : s 1 < 6
  · rw [if_pos z, if_pos z, oC_as]
    refine k_52 hb st pu cs (fun g1 fo1 ct1 cs1 => ?_) (fun c p g1 fk cf => hf _ _ g1 (Fdw_FK fk) cf)
    simp only [Int.reduceEq, ↓reduceIte, ↓G_dre, ↓G_tok, ct1.2.1, ↓K_dre]
    rw [oC_as]
    refine k_51 (RWd_FO st.2.2.2.1 fo1) cs1 9 0 9 (by omega) (by omega) (by omega) (fun p g2 p0 p1 fo2 cs2 => ?_) (fun c p g2 fk cf => ?_)
    case refine_2 => exact hf _ _ g2 (Fdw_tr (Fdw_FO fo1) (Fdw_FK fk)) cf
    rw [if_neg (show ¬ p = -1 by omega)]
    simp only [↓K_dre]
    rw [oC_as]
    have fo12 := FO_tr fo1 fo2
    refine k_51 (RWd_FO st.2.2.2.1 fo12) cs2 10 1 60 (by omega) (by omega) (by omega) (fun l g3 l0 l1 fo3 cs3 => ?_) (fun c p g2 fk cf => ?_)
    case refine_2 => exact hf _ _ g2 (Fdw_tr (Fdw_FO fo12) (Fdw_FK fk)) cf
    rw [if_neg (show ¬ l = -1 by omega)]
    have fo13 := FO_tr fo12 fo3
    have st3 := DSt_FO hb st fo13
    obtain ⟨st4, nb⟩ := DSt_mn hb st3 pu z (vaP t n (nxP t n q)) p l
    have pu4 := PU_mn pu z p0 p1 l0 l1
    have cs4 := Cs_b hb cs3 nb
    have f4 := Fdw_tr (Fdw_FO (b := b) fo13) (Fdw_b hb nb)
    obtain ⟨u1, -⟩ := mn_all (s := s) p l i2
    simp only [↓G_dre, st3.2.1, ↓K_daw hb, ↓oC_of (c_21 hb st3.1.1 i2 z _ _ _), ↓K_tok]
    generalize mnG g3 b (s 1) (vaP t n (nxP t n q)) p l = g4 at st4 cs4 f4 ⊢
    replace cs4 : Cs t n g4 (nx2 t n (nx2 t n (nx2 t n q))) := cs4
    rw [oC_as]
    refine k_92 st4.2.2.2.1 cs4 (fun v g5 fo5 ct5 cs5 => ?_)
    have st5 := DSt_FO hb st4 fo5
    have f5 := Fdw_tr f4 (Fdw_FO fo5)
    simp only [↓G_dre, ↓G_tok, ct5.2.2.2, ↓K_dre, ↓K_tok]
    by_cases y : wdP t n (nx2 t n (nx2 t n (nx2 t n q))) = 11
    · rw [if_pos y, if_pos y, oC_as]
      have yk := wd_k (t := t) (n := n) (q := nx2 t n (nx2 t n (nx2 t n q))) (by omega)
      refine k_53 hb st5 pu4 (cs5 (by omega) (by omega)) i2 (by omega) (fun h g6 st6 pu6 cs6 f6 => ?_) (fun c p g6 f6 cf => ?_)
      · simp only [Int.reduceEq, ↓reduceIte, ↓G_dre, ↓K_tok]
        rw [oC_as]
        refine k_95 st6.2.2.2.1 cs6 (fun _ g7 fo7 ct7 cs7 => ?_) (fun g7 fk cf => ?_)
        · exact hs _ _ _ g7 ⟨DSt_FO hb st6 fo7, pu6, cs7, Fdw_tr (Fdw_tr f5 f6) (Fdw_FO fo7), nx_tr (nx_tr (nx_tr (nx_tr (nx_tr (nx_tr (nx_tr (nx_tr (nx_lt t hk))))))))⟩
        · exact hf _ _ g7 (Fdw_tr (Fdw_tr f5 f6) (Fdw_FK fk)) cf
      · exact hf _ _ g6 (Fdw_tr f5 f6) cf
    · rw [if_neg y, if_neg y]
      simp only [↓oC_of (c_94 ct5 59), ↓if_b2i, ↓G_dre, ↓K_tok]
      unfold pStop
      by_cases x : kdP t n (nx2 t n (nx2 t n (nx2 t n q))) = 3 ∧ vaP t n (nx2 t n (nx2 t n (nx2 t n q))) = 59
      · rw [if_pos x, if_pos x]
        exact hs _ _ _ g5 ⟨st5, pu4, cs5 (by omega) (by omega), f5, nx_tr (nx_tr (nx_tr (nx_tr (nx_tr (nx_tr (nx_lt t hk))))))⟩
      · rw [if_neg x, if_neg x, oC_as]
        exact k_93 ct5 2 (fun g6 fk cf => hf _ _ g6 (Fdw_tr f5 (Fdw_FK fk)) cf)
  · rw [if_neg z, if_neg z, oC_as]
    exact k_93 ct 6 (fun g2 fk cf => hf _ _ g2 (Fdw_FK fk) cf)
/-- the end of a DAWN told, the class -/
def Pdc (b : Int) (g : Mem) (r : Rr ((Int → Int) × (Int → Int))) (v : Int) (g' : Mem) : Prop := Fdw b g g' ∧ match r with
  | .inl (c, p) => v = 0 ∧ Cf g' c p
  | .inr (s, nm) => v = 1 ∧ DC b g' s nm ∧ PU s ∧ Cf g' 0 (-1)
theorem Pdc_tr {g g1 : Mem} (h : Fdw b g g1) {r : Rr ((Int → Int) × (Int → Int))} {v : Int} {g2 : Mem} (k : Pdc b g1 r v g2) : Pdc b g r v g2 := ⟨Fdw_tr h k.1, k.2⟩
theorem c_47_w (w : Int) (hb : isD b) (st : DSt b g s nm told) (ct : Ct t n g q) (hw : wdP t n q = w) : MI X (d + 4) 47 [.inr (.inr 16)] S0 (ov g) = if 0 ≤ w ∧ w < 4 then oC (MI X (d + 3) 48 [.inr (.inr 16), .inl w] S0 (ov g)) (fun r S m => if r = 0 ∨ r = 1 then some (r, S, m) else none) else if w = 4 then oC (MI X (d + 3) 49 [.inr (.inr 16)] S0 (ov g)) (fun r S m => if r = 0 ∨ r = 1 then some (r, S, m) else none) else if w = 8 then oC (MI X (d + 3) 50 [.inr (.inr 16)] S0 (ov g)) (fun r S m => if r = 0 ∨ r = 1 then some (r, S, m) else none) else oC (MI X (d + 3) 93 [.inr (.inr 11), .inl 2] S0 (ov g)) (fun r S m => if r = 0 ∨ r = 1 then some (r, S, m) else none) := by
  rw [e_47]
  simp only [↓G_dre, ↓G_tok, ct.2.2.2, hw, ↓K_dre, ↓K_tok]
  (repeat' split) <;> first | rfl | (exfalso; omega)
theorem c_46_l (hb : isD b) (n9 : n ≤ 900) : ∀ (k : Nat) (i q : Int) (g : Mem) (s nm : Int → Int) (told : Int), i + k = n + 1 → 0 ≤ i → i ≤ q → q ≤ n → DSt b g s nm told → PU s → Cs t n g q → Ok (Pdc b g (pDawn t n k q s nm told)) (EI X (d + 5) 46 27 [some (.inr (.inr 16)), none, some (.inl n), some (.inl i)] [] S0 (ov g)) := by
  intro k
  induction k with
  | zero => intro i q g s nm told h1 h2 h3 h4; omega
  | succ k ih =>
    intro i q g s nm told h1 h2 h3 h4 st pu cs
    rw [e_46_27]
    simp (disch := omega) only [↓if_neg, ↓G_dre, ↓K_tok]
    unfold pDawn
    refine k_92 st.2.2.2.1 cs (fun v g1 fo ct cs1 => ?_)
    have st1 := DSt_FO hb st fo
    have f1 : Fdw b g g1 := Fdw_FO fo
    simp only [↓G_dre, ↓G_tok, ct.1, ↓K_dre]
    by_cases z : kdP t n q = 0
    · rw [if_pos z, if_pos z]
      exact Ok_some ⟨f1, rfl, st1.1, pu, st1.2.2.2.2⟩
    · rw [if_neg z, if_neg z]
      have nx := nx_lt t z
      have bad : ∀ c p g', Fdw b g1 g' → Cf g' c p → Ok (Pdc b g (.inl (c, p))) ((fun r7 S7 m7 => if r7 = 0 then some (0, S7, m7) else EI X (d + 4 + 1) 46 27 [some (.inr (.inr 16)), none, some (.inl n), some (.inl (w32 (i + 1)))] [] S7 m7) 0 S0 (ov g')) := fun c p g' fd cf => Ok_some ⟨Fdw_tr f1 fd, rfl, cf⟩
      have up : ∀ q' s' nm' told' g', gdP t n b g1 s' nm' told' q q' g' → Ok (Pdc b g (pDawn t n k q' s' nm' told')) (EI X (d + 4 + 1) 46 27 [some (.inr (.inr 16)), none, some (.inl n), some (.inl (w32 (i + 1)))] [] S0 (ov g')) := fun q' s' nm' told' g' gd => by
        obtain ⟨g1', g2', g3', g4', g5', g6'⟩ := gd
        rw [w32_id (x := i + 1) (by omega) (by omega)]
        exact Ok_mono (ih (i + 1) q' g' s' nm' told' (by omega) (by omega) (by omega) g6' g1' g2' g3') (fun v g2 k2 => Pdc_tr (Fdw_tr f1 g4') k2)
      have ct' := ct
      rw [c_47_w (wdP t n q) hb st1 ct rfl]
      have wr' := wd_r t n q
      by_cases w1 : 0 ≤ wdP t n q ∧ wdP t n q < 4
      · rw [if_pos w1, if_pos w1, oC_as]
        have k1 := wd_k (t := t) (n := n) (q := q) w1.1
        refine k_48 hb st1 pu z ct (cs1 z (by omega)) w1.1 w1.2 (fun q' s' told' g' gd => ?_) (fun c p g' fd cf => bad c p g' fd cf)
        exact up q' s' nm told' g' gd
      · rw [if_neg w1, if_neg w1]
        by_cases w2 : wdP t n q = 4
        · rw [if_pos w2, if_pos w2, oC_as]
          have k1 := wd_k (t := t) (n := n) (q := q) (by omega)
          refine k_49 hb st1 pu z ct (cs1 z (by omega)) (fun q' s' nm' g' gd => ?_) (fun c p g' fd cf => bad c p g' fd cf)
          exact up q' s' nm' told g' gd
        · rw [if_neg w2, if_neg w2]
          by_cases w3 : wdP t n q = 8
          · rw [if_pos w3, if_pos w3, oC_as]
            have k1 := wd_k (t := t) (n := n) (q := q) (by omega)
            refine k_50 hb st1 pu z ct (cs1 z (by omega)) (fun q' s' nm' g' gd => ?_) (fun c p g' fd cf => bad c p g' fd cf)
            exact up q' s' nm' told g' gd
          · rw [if_neg w3, if_neg w3, oC_as]
            exact k_93 ct 2 (fun g2 fk cf => bad _ _ g2 (Fdw_FK fk) cf)
end
