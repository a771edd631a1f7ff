/-! YEARS told, the model: one STEP read -/
section
variable {X : Xs} {d : Nat} {g : Mem} {t : Int → Int} {n q N : Int} {s nm om oc : Int → Int} {R : Int → Int → Int} {np ns D : Int} {σ : Type} {P : Rr σ → Int → Mem → Prop} {f : Int → Sh → Mem → Option Rs}
theorem k_244 (hr : txR t n) (iv : Iv N s) (my : MY t n g s nm R np ns D om q) (hk : kdP t n q ≠ 0) {K : Int → (Int → Int → Int) → Int → Int → Int → (Int → Int) → (Int → Int) → Rr σ} (hs : ∀ q' R' np' ns' D' oc' om' g', MY t n g' s nm R' np' ns' D' om' q' → Fyr g g' → Ok (P (K q' R' np' ns' D' oc' om')) (f 1 S0 (ov g'))) (hf : ∀ c p g', Fyr g g' → Mf g' c p → Ok (P (.inl (c, p))) (f 0 S0 (ov g'))) : Ok (P (pStep t n q s nm R np ns D oc om K)) (oC (MI X (d + 12) 244 [.inr (.inr 143)] S0 (ov g)) f) := by
  obtain ⟨mg, nn, a3, a4, a5, a6, a7, a8⟩ := id my
  have wr' := wd_r t n q
  have bad : ∀ c, (0 < c ∧ c < 100) → Ok (P (pBad t n q c)) (oC (W1 (MI X (d + 11) 221 [.inr (.inr 143), .inl c] S0 (ov g))) f) := fun c hc => by
    unfold W1
    rw [oC_as]
    exact k_221 mg c (fun g2 fn mf => hf _ _ g2 (Fyr_dm (Fdm_FN fn)) mf) hc
  rw [m_244_h (d := d) hr mg rfl a3 a4 a5 (by omega) (by omega)]
  unfold pStep
  generalize hw : wdP t n q = w at wr' ⊢
  -- a new row, from 97 on
  have row : ∀ (r o : Int), ¬ (o ≠ 0 ∧ D = 3) → ∃ g', EI X (d + 12) 244 97 [some (.inr (.inr 143)), some (.inl r), some (.inl np), some (.inl (1992 + 6 * np)), some (.inl o), none] [] S0 (ov g) = EI X (d + 12) 244 147 [some (.inr (.inr 143)), some (.inl r), some (.inl np), some (.inl (1992 + 6 * np)), some (.inl o), some (.inl 6)] [] S0 (ov g') ∧ Mg t n g' q ∧ rd g' 143 22 = D ∧ rd g' 143 23 = ns + (if r = 21 then 0 else 1) ∧ (∀ l, 0 ≤ l → rd g' 151 l = rd g 151 l) ∧ (∀ i, 0 ≤ i → i < 1992 + 6 * np → rd g' 144 i = rd g 144 i) ∧ (∀ i, 0 ≤ i → rd g' 145 i = rd g 145 i) ∧ Rat g' (1992 + 6 * np) (row0 r) ∧ Fyr g g' := fun r o ho => by
    obtain ⟨g', e, z, fr⟩ := m_244_147 (X := X) (d := d + 11) (np := np) (a := 1992 + 6 * np) (r := r) (o := o) (by omega) (by omega) 5 1 (wr (wr g 143 23 (ns + (if r = 21 then 0 else 1))) 144 (1992 + 6 * np) r) (by omega) (by omega)
    have k : ∀ c i, 0 ≤ c → 0 ≤ i → (c ≠ 143 ∨ i ≠ 23) → (c ≠ 144 ∨ i < 1992 + 6 * np) → rd g' c i = rd g c i := fun c i x y u v => by
      rw [fr c i x y (by omega)]
      by_cases e1 : c = 144
      · subst e1; rw [rd_wr_ix _ _ (by omega) y (by omega), rd_wr_ne _ _ _ _ (by omega) x (by omega)]
      · rw [rd_wr_ne _ _ _ _ (by omega) x e1]
        by_cases e2 : c = 143
        · subst e2; exact rd_wr_ix _ _ (by omega) y (by omega)
        · exact rd_wr_ne _ _ _ _ (by omega) x e2
    refine ⟨g', ?_, ?_, ?_, ?_, fun l x => k _ _ (by omega) x (by omega) (by omega), fun i x y => k _ _ (by omega) x (by omega) (by omega), fun i x => k _ _ (by omega) x (by omega) (by omega), fun j x y => ?_, fun c i x y u v w' o' => k c i x y (by omega) (by omega)⟩
    · rw [m_244_97 a4 a5 (by omega) (by omega) (by omega) (by omega), if_neg ho]
      exact e
    · obtain ⟨⟨x1, x2⟩, ⟨y1, y2, y3, y4, y5⟩, x4, x5⟩ := mg
      exact ⟨⟨(k _ _ (by omega) (by omega) (by omega) (by omega)).trans x1, fun i x y => (k _ _ (by omega) x (by omega) (by omega)).trans (x2 i x y)⟩, ⟨(k _ _ (by omega) (by omega) (by omega) (by omega)).trans y1, (k _ _ (by omega) (by omega) (by omega) (by omega)).trans y2, (k _ _ (by omega) (by omega) (by omega) (by omega)).trans y3, fun z => (k _ _ (by omega) (by omega) (by omega) (by omega)).trans (y4 z), y5⟩, (k _ _ (by omega) (by omega) (by omega) (by omega)).trans x4, (k _ _ (by omega) (by omega) (by omega) (by omega)).trans x5⟩
    · exact (k _ _ (by omega) (by omega) (by omega) (by omega)).trans a4
    · rw [fr _ _ (by omega) (by omega) (by omega), rd_wr_ne _ _ _ _ (by omega) (by omega) (by omega)]; exact rd_wr_eq _ _ _ _
    · by_cases e : j = 0
      · subst e
        rw [fr _ _ (by omega) (by omega) (by omega), Int.add_zero]
        exact rd_wr_eq _ _ _ _
      · rw [z j (by omega) y]
        unfold row0
        rw [if_neg e]
  have p21 : pmP w = 21 ↔ w = 24 := by
    unfold pmP
    (repeat' split) <;> omega
  by_cases e1 : w = 24 ∧ 0 < D
  · rw [if_pos e1, e1.1, show pmP 24 = 21 from rfl, if_neg (show ¬ ((21 : Int) < 12 ∨ (22 : Int) < 21 ∨ ((21 : Int) = 21 ∧ D = 0)) by omega), if_neg (show ¬ ((21 : Int) ≠ 21 ∧ ns = 30) by omega), if_neg (show ¬ ((21 : Int) = 19 ∨ (21 : Int) = 20) by omega)]
    obtain ⟨g', e, mg', h22, h23, h151, fr, fn, rt, fy⟩ := row 21 0 (by omega)
    rw [e]
    refine k_244_e (d := d) hr my mg' e1.2 h22 (by rw [h23, if_pos rfl]; omega) h151 fr fn rt (fun g2 m2 f2 => hs _ _ _ _ _ _ _ g2 m2 (Fyr_tr fy f2)) (fun c p g2 f2 mf => hf c p g2 (Fyr_tr fy f2) mf)
  rw [if_neg e1]
  by_cases ws : isSt w
  case neg =>
    rw [if_pos ws, if_pos (show pmP w < 12 ∨ 22 < pmP w ∨ (pmP w = 21 ∧ D = 0) by
      by_cases z : w = 24
      · exact Or.inr (Or.inr ⟨p21.2 z, by omega⟩)
      · unfold pmP
        unfold isSt at ws
        (repeat' split) <;> omega)]
    exact bad 2 (by omega)
  rw [if_neg (show ¬ ¬ isSt w from fun z => z ws), if_neg (show ¬ (pmP w < 12 ∨ 22 < pmP w ∨ (pmP w = 21 ∧ D = 0)) by
    unfold pmP
    unfold isSt at ws
    (repeat' split) <;> omega)]
  have n21 : pmP w ≠ 21 := fun z => by
    have := p21.1 z
    unfold isSt at ws
    omega
  by_cases n30 : 30 ≤ ns
  · rw [if_pos n30, if_pos ⟨n21, by omega⟩]
    exact bad 6 (by omega)
  rw [if_neg n30, if_neg (show ¬ (pmP w ≠ 21 ∧ ns = 30) by omega)]
  have io : (pmP w = 19 ∨ pmP w = 20) ↔ isOp w := by
    unfold pmP
    unfold isSt at ws
    (repeat' split) <;> omega
  have eo : (if pmP w = 19 ∨ pmP w = 20 then (1 : Int) else 0) = (if isOp w then 1 else 0) := by
    by_cases z : isOp w
    · rw [if_pos z, if_pos (io.2 z)]
    · rw [if_neg z, if_neg (fun y => z (io.1 y))]
  rw [eo]
  by_cases dd : isOp w ∧ 3 ≤ D
  · rw [if_pos dd, if_pos dd.1, m_244_97 a4 a5 (by omega) (by omega) (by omega) (by omega), if_pos (show (1 : Int) ≠ 0 ∧ D = 3 by omega)]
    exact bad 7 (by omega)
  rw [if_neg dd]
  obtain ⟨g', e, mg', h22, h23, h151, fr, fn, rt, fy⟩ := row (pmP w) (if isOp w then 1 else 0) (by
    by_cases z : isOp w
    · rw [if_pos z]; omega
    · rw [if_neg z]; omega)
  rw [e]
  refine k_244_n (d := d) hr iv my mg' (by omega) ws (fun z => by omega) h22 (by rw [h23, if_neg n21]) h151 fr fn rt (fun q' row g2 m2 f2 => ?_) (fun c p g2 f2 mf => hf c p g2 (Fyr_tr fy f2) mf)
  by_cases z : isOp w
  · rw [if_pos z]
    rw [if_pos z, if_pos z] at m2
    exact hs _ _ _ _ _ _ _ g2 m2 (Fyr_tr fy f2)
  · rw [if_neg z]
    rw [if_neg z, if_neg z] at m2
    exact hs _ _ _ _ _ _ _ g2 m2 (Fyr_tr fy f2)
end
