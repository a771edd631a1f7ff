/-! YEARS told, the class: one STEP read -/
section
variable {X : Xs} {d : Nat} {g : Mem} {t : Int → Int} {n q b b0 N : Int} {s nm : Int → Int} {σ : Type} {P : Rr σ → Int → Mem → Prop} {f : Int → Sh → Mem → Option Rs} {R : Int → Int → Int} {np ns D : Int} {oc om : Int → Int}
/-- how a STEP read ends well, the class -/
abbrev gyC (t : Int → Int) (n b b0 : Int) (g : Mem) (s nm : Int → Int) (R : Int → Int → Int) (np ns D : Int) (oc om : Int → Int) (q0 q : Int) (g' : Mem) : Prop := YC b b0 g' s nm ∧ YSt b (s 0) (s 1) g' R np ns D oc om ∧ Cs t n g' q ∧ Fys b g g' ∧ q0 < q ∧ q ≤ n
theorem k_133 (hb : isD b) (hb0 : isD b0) (hn : b ≠ b0) (yc : YC b b0 g s nm) (iv : Iv N s) (ys : YSt b (s 0) (s 1) g R np ns D oc om) (h30 : ns < 30) (w : Int) (ws : isSt w) (hD : isOp w → D < 3) (cs : Cs t n g q) {K : Int → (Int → Int → Int) → Int → Int → Int → (Int → Int) → (Int → Int) → Rr σ} (hs : ∀ q' R' np' ns' D' oc' om' g', YC b b0 g' s nm → YSt b (s 0) (s 1) g' R' np' ns' D' oc' om' → Cs t n g' q' → Fys b g g' → qUp n q q' → Ok (P (K q' R' np' ns' D' oc' om')) (f 1 S0 (ov g'))) (hf : ∀ c p g', Fys b g g' → Cf g' c p → Ok (P (.inl (c, p))) (f 0 S0 (ov g'))) : Ok (P (pRest t n w q s nm fun q' r => pStop t n q' (if isOp w then K (nxP t n q') (adR R np r) (np + 1) (ns + 1) (D + 1) (us oc D ns) (us om D np) else K (nxP t n q') (adR R np r) (np + 1) (ns + 1) D oc om))) (oC (EI X (d + 5) 119 133 [some (.inr (.inr 17)), some (.inl w), some (.inl (if isOp w then 1 else 0)), none] [] S0 (ov g)) f) := by
  have q1 := isD_rng hb
  have q2 := isD_rng hb0
  have hsep : b + 20 < b0 ∨ b0 + 20 < b := by unfold isD at hb hb0; omega
  obtain ⟨a1, a2, a3, a4, a5, a6⟩ := id ys
  obtain ⟨fr, r1, r14, r20⟩ := asG_fr (g := g) (ns := ns) hb (by omega) w
  have c115 := c_115 (X := X) (d := d + 4) hb a2 (by omega) h30 w
  rw [e_119_133]
  simp only [↓G_yre, yc.2.1, ↓K_yrs hb, ↓oC_of c115]
  have yc1 : YC b b0 (asG g b ns w) s nm := YC_fr hb0 yc (fun c i x y z => fr c i x y (by omega))
  have cs1 : Cs t n (asG g b ns w) q := Cs_fr cs (fun c i x y z => fr c i (by omega) z (by omega))
  have fy1 : Fys b g (asG g b ns w) := fun c i x y _ _ _ z => fr c i x y (by omega)
  have d17 : rd (asG g b ns w) 17 4 = D := (fr _ _ (by omega) (by omega) (by omega)).trans a3
  have e18 : ∀ l, 0 ≤ l → rd (asG g b ns w) 18 l = rd g 18 l := fun l x => fr _ _ (by omega) x (by omega)
  have e130 : rd (asG g b ns w) (b + 13) 0 = 1 := (fr _ _ (by omega) (by omega) (by omega)).trans a1
  have frk : ∀ k t', 0 ≤ k → k ≤ 6 → 0 ≤ t' → t' ≠ ns → rd (asG g b ns w) (b + 14 + k) t' = rd g (b + 14 + k) t' := fun k t' x y z v => fr _ _ (by omega) z (by omega)
  generalize asG g b ns w = g1 at fr r1 r14 r20 yc1 cs1 fy1 d17 e18 e130 frk ⊢
  by_cases ho : isOp w
  · rw [if_pos ho, if_neg (show ¬ (1 : Int) = 0 by omega)]
    have hd := hD ho
    have ew : w32 (D + 1) = D + 1 := w32_id (by omega) (by omega)
    have d17' : rd (wr g1 18 D ns) 17 4 = D := by rw [rd_wr_ne _ _ _ _ (by omega) (by omega) (by omega)]; exact d17
    simp (disch := omega) only [↓G_yre, d17, ↓as_18, d17', ew, ↓P_yre, ↓K_yre]
    have n2 : ∀ c i, 0 ≤ c → 0 ≤ i → c ≠ 18 → (c ≠ 17 ∨ i ≠ 4) → rd (wr (wr g1 18 D ns) 17 4 (D + 1)) c i = rd g1 c i := fun c i x y z v => by
      by_cases e : c = 17
      · subst e
        rw [rd_wr_ix _ _ (by omega) y (by omega), rd_wr_ne _ _ _ _ (by omega) (by omega) (by omega)]
      · rw [rd_wr_ne _ _ _ _ (by omega) x e, rd_wr_ne _ _ _ _ (by omega) x z]
    have m18 : ∀ l, 0 ≤ l → rd (wr (wr g1 18 D ns) 17 4 (D + 1)) 18 l = if l = D then ns else rd g1 18 l := fun l x => by
      rw [rd_wr_ne _ _ _ _ (by omega) (by omega) (by omega), rd_wr_if _ _ _ (by omega) x]
    have m17 : rd (wr (wr g1 18 D ns) 17 4 (D + 1)) 17 4 = D + 1 := rd_wr_eq _ _ _ _
    have yc2 : YC b b0 (wr (wr g1 18 D ns) 17 4 (D + 1)) s nm := YC_fr hb0 yc1 (fun c i x y z => n2 c i x y (by omega) (by omega))
    have cs2 : Cs t n (wr (wr g1 18 D ns) 17 4 (D + 1)) q := Cs_fr cs1 (fun c i x y z => n2 c i (by omega) z (by omega) (by omega))
    have fy2 : Fys b g (wr (wr g1 18 D ns) 17 4 (D + 1)) := fun c i x y z v u l => (n2 c i x y u v).trans (fy1 c i x y z v u l)
    generalize wr (wr g1 18 D ns) 17 4 (D + 1) = g2 at n2 m18 m17 yc2 cs2 fy2 ⊢
    rw [oC_as]
    refine k_121 hb hb0 hn yc2 iv (by omega) h30 cs2 ((n2 _ _ (by omega) (by omega) (by omega) (by omega)).trans r14) ws (fun q' r g3 sp f3 cs3 up => ?_) (fun c p g3 f3 cf => hf c p g3 (Fys_tr fy2 (Fys_sk f3)) cf)
    simp only [Int.reduceEq, ↓reduceIte, ↓G_yre, ↓K_tok]
    rw [oC_as]
    have yc3 := YC_st hb hb0 hn yc2 f3
    have ys3 := YSt_ad (g' := g3) (oc' := us oc D ns) (om' := us om D np) hb ys h30 hD ((f3 _ _ (by omega) (by omega) (by omega) (by omega)).trans ((n2 _ _ (by omega) (by omega) (by omega) (by omega)).trans e130)) ((f3 _ _ (by omega) (by omega) (by omega) (by omega)).trans ((n2 _ _ (by omega) (by omega) (by omega) (by omega)).trans r1)) (by rw [if_pos ho, f3 _ _ (by omega) (by omega) (by omega) (by omega)]; exact m17) (fun l x y => ⟨by rw [f3 _ _ (by omega) x (by omega) (by omega), m18 l x, if_neg (by omega), e18 l x, us_ne _ _ (by omega)]; exact a4 l x y, us_ne _ _ (by omega), us_ne _ _ (by omega)⟩) (fun _ => ⟨by rw [f3 _ _ (by omega) (by omega) (by omega) (by omega), m18 D (by omega), if_pos rfl], us_eq _ _ _, us_eq _ _ _⟩) (fun k t' x y z v => by rw [f3 _ _ (by omega) z (by omega) (by omega), n2 _ _ (by omega) z (by omega) (by omega)]; exact frk k t' x y z v) ((f3 _ _ (by omega) (by omega) (by omega) (by omega)).trans ((n2 _ _ (by omega) (by omega) (by omega) (by omega)).trans r20)) sp
    rw [if_pos ho] at ys3
    refine k_95 yc3.2.2.1 cs3 (fun _ g4 fo4 ct4 cs4 => ?_) (fun g4 fk cf => hf _ _ g4 (Fys_tr fy2 (Fys_tr (Fys_st f3) (Fys_FK fk))) cf)
    simp only [Int.reduceEq, ↓reduceIte]
    rw [if_pos ho]
    exact hs _ _ _ _ _ _ _ g4 (YC_st (a := 0) hb hb0 hn yc3 (Fst_FO fo4)) (YSt_fr ys3 (by omega) (fun c i x y => fo4 c i (by omega) x (by omega))) cs4 (Fys_tr fy2 (Fys_tr (Fys_st f3) (Fys_FK (FK_FO fo4)))) (fun q0 h => nx_tr (up q0 h))
  · rw [if_neg ho, if_pos rfl]
    simp only [↓K_yre]
    rw [oC_as]
    refine k_121 hb hb0 hn yc1 iv (by omega) h30 cs1 r14 ws (fun q' r g3 sp f3 cs3 up => ?_) (fun c p g3 f3 cf => hf c p g3 (Fys_tr fy1 (Fys_sk f3)) cf)
    simp only [Int.reduceEq, ↓reduceIte, ↓G_yre, ↓K_tok]
    rw [oC_as]
    have yc3 := YC_st hb hb0 hn yc1 f3
    have ys3 := YSt_ad (g' := g3) (oc' := oc) (om' := om) hb ys h30 hD ((f3 _ _ (by omega) (by omega) (by omega) (by omega)).trans e130) ((f3 _ _ (by omega) (by omega) (by omega) (by omega)).trans r1) (by rw [if_neg ho, f3 _ _ (by omega) (by omega) (by omega) (by omega)]; exact d17) (fun l x y => ⟨by rw [f3 _ _ (by omega) x (by omega) (by omega), e18 l x]; exact a4 l x y, rfl, rfl⟩) (fun z => absurd z ho) (fun k t' x y z v => by rw [f3 _ _ (by omega) z (by omega) (by omega)]; exact frk k t' x y z v) ((f3 _ _ (by omega) (by omega) (by omega) (by omega)).trans r20) sp
    rw [if_neg ho] at ys3
    refine k_95 yc3.2.2.1 cs3 (fun _ g4 fo4 ct4 cs4 => ?_) (fun g4 fk cf => hf _ _ g4 (Fys_tr fy1 (Fys_tr (Fys_st f3) (Fys_FK fk))) cf)
    simp only [Int.reduceEq, ↓reduceIte]
    rw [if_neg ho]
    exact hs _ _ _ _ _ _ _ g4 (YC_st (a := 0) hb hb0 hn yc3 (Fst_FO fo4)) (YSt_fr ys3 (by omega) (fun c i x y => fo4 c i (by omega) x (by omega))) cs4 (Fys_tr fy1 (Fys_tr (Fys_st f3) (Fys_FK (FK_FO fo4)))) (fun q0 h => nx_tr (up q0 h))
end
