/-! YEARS told, the class: takes -/
section
variable {X : Xs} {d : Nat} {g : Mem} {t : Int → Int} {n q b b0 N : Int} {s nm : Int → Int} {σ : Type} {P : Rr σ → Int → Mem → Prop} {f : Int → Sh → Mem → Option Rs} {R : Int → Int → Int} {np ns D : Int} {oc om : Int → Int}
theorem k_119 (hb : isD b) (hb0 : isD b0) (hn : b ≠ b0) (yc : YC b b0 g s nm) (iv : Iv N s) (ys : YSt b (s 0) (s 1) g R np ns D oc om) (hk : kdP t n q ≠ 0) (ct : Ct t n g q) (cs : kdP t n q ≠ 0 → kdP t n q ≠ 4 → Cs t n g (nxP t n q)) {K : Int → (Int → Int → Int) → Int → Int → Int → (Int → Int) → (Int → Int) → Rr σ} (hs : ∀ q' R' np' ns' D' oc' om' g', gyC t n b b0 g s nm R' np' ns' D' oc' om' q q' g' → Ok (P (K q' R' np' ns' D' oc' om')) (f 1 S0 (ov g'))) (hf : ∀ c p g', Fys b g g' → Cf g' c p → Ok (P (.inl (c, p))) (f 0 S0 (ov g'))) : Ok (P (pStep t n q s nm R np ns D oc om K)) (oC (MI X (d + 6) 119 [.inr (.inr 17), .inl (wdP t n q)] S0 (ov g)) f) := by
  have q1 := isD_rng hb
  have q2 := isD_rng hb0
  have hsep : b + 20 < b0 ∨ b0 + 20 < b := by unfold isD at hb hb0; omega
  obtain ⟨a1, a2, a3, a4, a5, a6⟩ := id ys
  have cs' : 0 ≤ wdP t n q → Cs t n g (nxP t n q) := fun h => by
    have := wd_k h
    exact cs (by omega) (by omega)
  have lt := nx_lt t hk
  have bad : ∀ c, Ok (P (pBad t n q c)) (oC (oC (MI X (d + 5) 93 [.inr (.inr 11), .inl c] S0 (ov g)) fun r S m => if r = 0 ∨ r = 1 then some (r, S, m) else none) f) := fun c => by
    rw [oC_as]
    exact k_93 ct c (fun g2 fk cf => hf _ _ g2 (Fys_FK fk) cf)
  rw [e_119]
  unfold pStep
  generalize hw : wdP t n q = w at cs' ⊢
  simp only [↓G_yre, a3, ↓oC_of (c_120 w _ _), ↓if_b2i, yc.2.1, ↓G_yrs hb, a2, ↓K_tok]
  by_cases w24 : w = 24
  · subst w24
    rw [if_pos rfl]
    by_cases hD : 0 < D
    · rw [if_pos hD, if_pos ⟨rfl, hD⟩]
      obtain ⟨o0, o1, yc'⟩ := YSt_cl hb ys hD
      have ew : w32 (D - 1) = D - 1 := w32_id (by omega) (by omega)
      have n1 : ∀ c i, 0 ≤ c → 0 ≤ i → (c ≠ 17 ∨ i ≠ 4) → rd (wr g 17 4 (D - 1)) c i = rd g c i := fun c i x y z => by
        by_cases e : c = 17
        · subst e; exact rd_wr_ix _ _ (by omega) y (by omega)
        · exact rd_wr_ne _ _ _ _ (by omega) x e
      have m3 : rd (wr g 17 4 (D - 1)) 17 3 = b + 13 := (n1 _ _ (by omega) (by omega) (by omega)).trans yc.2.1
      have m4 : rd (wr g 17 4 (D - 1)) 17 4 = D - 1 := rd_wr_eq _ _ _ _
      have m18 : rd (wr g 17 4 (D - 1)) 18 (D - 1) = oc (D - 1) := (n1 _ _ (by omega) (by omega) (by omega)).trans (a4 _ (by omega) (by omega))
      have m1 : rd (wr g 17 4 (D - 1)) (b + 13) 1 = ns := (n1 _ _ (by omega) (by omega) (by omega)).trans a2
      simp (disch := omega) only [↓P_yre, ew, ↓G_yre, m3, m4, ↓al_18, m18, ↓G_yrs hb, m1, ↓as_D20 hb, ↓K_tok]
      have n2 : ∀ c i, 0 ≤ c → 0 ≤ i → (c ≠ 17 ∨ i ≠ 4) → c ≠ b + 20 → rd (wr (wr g 17 4 (D - 1)) (b + 20) (oc (D - 1)) ns) c i = rd g c i := fun c i x y z v => by
        rw [rd_wr_ne _ _ _ _ (by omega) x v]; exact n1 c i x y z
      generalize wr (wr g 17 4 (D - 1)) (b + 20) (oc (D - 1)) ns = g2 at yc' n2 ⊢
      have yc2 : YC b b0 g2 s nm := YC_fr hb0 yc (fun c i x y z => n2 c i x y (by omega) (by omega))
      have cs2 : Cs t n g2 (nxP t n q) := Cs_fr (cs' (by omega)) (fun c i x y z => n2 c i (by omega) z (by omega) (by omega))
      have fy2 : Fys b g g2 := fun c i x y z v u l => n2 c i x y v (by omega)
      rw [oC_as]
      refine k_95 yc2.2.2.1 cs2 (fun _ g4 fo4 ct4 cs4 => ?_) (fun g4 fk cf => hf _ _ g4 (Fys_tr fy2 (Fys_FK fk)) cf)
      exact hs _ _ _ _ _ _ _ g4 ⟨YC_st (a := 0) hb hb0 hn yc2 (Fst_FO fo4), YSt_fr yc' (by omega) (fun c i x y => fo4 c i (by omega) x (by omega)), cs4, Fys_tr fy2 (Fys_FK (FK_FO fo4)), nx_tr lt⟩
    · rw [if_neg hD, if_neg (show ¬ isSt 24 by omega), if_neg (fun z => hD z.2), if_pos (show ¬ isSt 24 by omega)]
      exact bad 2
  · rw [if_neg w24, if_neg (show ¬ (w = 24 ∧ 0 < D) from fun z => w24 z.1)]
    by_cases ws : isSt w
    case neg =>
      rw [if_neg ws, if_pos ws]
      exact bad 2
    rw [if_pos ws, if_neg (show ¬ ¬ isSt w from fun z => z ws)]
    by_cases h30 : ns < 30
    case neg =>
      rw [if_neg h30, if_pos (by omega)]
      exact bad 6
    rw [if_pos h30, if_neg (show ¬ 30 ≤ ns by omega)]
    have go : (isOp w → D < 3) → Ok (P (pRest t n w (nxP t n q) s nm fun q' r => pStop t n q' (if isOp w then K (nxP t n q') (adR R np r) (np + 1) (ns + 1) (D + 1) (us oc D ns) (us om D np) else K (nxP t n q') (adR R np r) (np + 1) (ns + 1) D oc om))) (oC (EI X (d + 6) 119 133 [some (.inr (.inr 17)), some (.inl w), some (.inl (if isOp w then 1 else 0)), none] [] S0 (ov g)) f) := fun hD => k_133 (d := d + 1) hb hb0 hn yc iv ys h30 w ws hD (cs' (by omega)) (fun q' R' np' ns' D' oc' om' g' b1 b2 b3 b4 b5 => hs _ _ _ _ _ _ _ g' ⟨b1, b2, b3, b4, b5 q lt⟩) hf
    by_cases w19 : w = 19
    · subst w19
      rw [if_pos rfl, if_neg (show ¬ (1 : Nat) = 0 by omega)]
      by_cases hD : D < 3
      · rw [if_pos hD, if_neg (fun z => by omega)]
        have g1 := go (fun _ => hD)
        rw [if_pos (show isOp 19 from Or.inl rfl)] at g1
        exact g1
      · rw [if_neg hD, if_pos ⟨Or.inl rfl, by omega⟩]
        exact bad 7
    rw [if_neg w19]
    by_cases w23 : w = 23
    · subst w23
      rw [if_pos rfl, if_neg (show ¬ (1 : Nat) = 0 by omega)]
      by_cases hD : D < 3
      · rw [if_pos hD, if_neg (fun z => by omega)]
        have g1 := go (fun _ => hD)
        rw [if_pos (show isOp 23 from Or.inr rfl)] at g1
        exact g1
      · rw [if_neg hD, if_pos ⟨Or.inr rfl, by omega⟩]
        exact bad 7
    rw [if_neg w23, if_pos trivial, if_neg (fun z => by omega)]
    have no : ¬ isOp w := by omega
    have g1 := go (fun z => absurd z no)
    rw [if_neg no] at g1
    exact g1
end
