/-! YEARS told, the class: the rest of a STEP -/
abbrev isSt (w : Int) : Prop := (12 ≤ w ∧ w ≤ 19) ∨ w = 23 ∨ w = 25
section
variable {X : Xs} {d : Nat} {g : Mem} {t : Int → Int} {n q b b0 a N : Int} {s nm : Int → Int} {σ : Type} {P : Rr σ → Int → Mem → Prop} {f : Int → Sh → Mem → Option Rs}
theorem c_120 (w : Int) (S : Sh) (h : Mem) : MI X d 120 [.inl w] S h = some (b2i (isSt w), S, h) := by
  rw [e_120]
  unfold b2i isSt
  (repeat' split) <;> first | rfl | (exfalso; omega)
/-- the STEP at a as the class holds it -/
abbrev cAt (g : Mem) (b a : Int) : Int → Int := fun k => rd g (b + 14 + k) a
theorem cAt_v (g : Mem) (b a : Int) : cAt g b a 0 = rd g (b + 14) a ∧ cAt g b a 1 = rd g (b + 15) a ∧ cAt g b a 2 = rd g (b + 16) a ∧ cAt g b a 3 = rd g (b + 17) a ∧ cAt g b a 4 = rd g (b + 18) a ∧ cAt g b a 5 = rd g (b + 19) a := by
  unfold cAt
  refine ⟨?_, ?_, ?_, ?_, ?_, ?_⟩ <;> (congr 1; omega)
theorem k_121 (hb : isD b) (hb0 : isD b0) (hn : b ≠ b0) (yc : YC b b0 g s nm) (iv : Iv N s) (a0 : 0 ≤ a) (a1 : a < 30) (cs : Cs t n g q) {w : Int} (hw : rd g (b + 14) a = w) (ws : isSt w) {K : Int → (Int → Int) → Rr σ} (hs : ∀ q' r g', StP (s 0) (s 1) w r (cAt g' b a) → Fst b a g g' → Cs t n g' q' → qUp n q q' → Ok (P (K q' r)) (f 1 S0 (ov g'))) (hf : ∀ c p g', Fsk b a g g' → Cf g' c p → Ok (P (.inl (c, p))) (f 0 S0 (ov g'))) : Ok (P (pRest t n w q s nm K)) (oC (MI X (d + 4) 121 [.inr (.inr 17), .inl a] S0 (ov g)) f) := by
  have q1 := isD_rng hb
  have bad : ∀ {G : Mem}, Fst b a g G → ∀ c p g', FK G g' → Cf g' c p → Ok (P (.inl (c, p))) (f 0 S0 (ov g')) := fun fG c p g' fk cf => hf c p g' (Fsk_st fG fk) cf
  have badw : ∀ {G : Mem} (c0 x : Int), (b + 15 ≤ c0 ∧ c0 ≤ b + 19) → Fst b a g G → ∀ c p g', FK G g' → Cf g' c p → Ok (P (.inl (c, p))) (f 0 S0 (ov (wr g' c0 a x))) := fun c0 x hc fG c p g' fk cf => hf c p _ (Fsk_wr (Fsk_st fG fk) x hc (by omega) a0) (Cf_wr cf x (by omega))
  have rf : Fst b a g g := fun _ _ _ _ _ _ => rfl
  have w14 : ∀ {G : Mem}, Fst b a g G → rd G (b + 14) a = w := fun {G} h => (h _ _ (by omega) a0 (by omega) (by omega)).trans hw
  rw [e_121]
  simp (disch := omega) only [↓G_yre, yc.2.1, ↓G_yrs hb, ↓al_D14 X hb, hw]
  unfold pRest
  by_cases w12 : w = 12
  · subst w12
    rw [if_pos rfl, if_pos rfl]
    simp only [↓K_yre]
    rw [oC_as]
    refine k_125 hb hb0 hn yc iv cs (fun m g2 m0 m1 fo2 cs2 => ?_) (fun c p g2 fk cf => ?_)
    case refine_2 =>
      have e3 : rd (wr g2 (b + 17) a (-1)) 17 3 = b + 13 := by
        rw [rd_wr_ne _ _ _ _ (by omega) (by omega) (by omega), fk _ _ (by omega) (by omega) (by omega)]; exact yc.2.1
      have e3' : rd (wr (wr g2 (b + 17) a (-1)) (b + 18) a (-1)) 17 3 = b + 13 := by
        rw [rd_wr_ne _ _ _ _ (by omega) (by omega) (by omega)]; exact e3
      simp (disch := omega) only [↓as_D17 hb, ↓G_yre, e3, ↓G_yrs hb, ↓al_D17 X hb, rd_wr_eq]
      simp (disch := omega) only [↓reduceIte, ↓as_D18 hb, ↓G_yre, e3', ↓G_yrs hb, ↓al_D18 X hb, rd_wr_eq]
      exact hf c p _ (Fsk_wr (Fsk_wr (Fsk_st rf fk) (-1) (by omega) (by omega) a0) (-1) (by omega) (by omega) a0) (Cf_wr (Cf_wr cf (-1) (by omega)) (-1) (by omega))
    have f2 : Fst b a g (wr g2 (b + 17) a m) := Fst_tr (Fst_FO fo2) (Fst_wr _ _ (by omega) (by omega) a0)
    have y2 := YC_st hb hb0 hn yc f2
    have k17 : rd (wr g2 (b + 17) a m) (b + 17) a = m := rd_wr_eq _ _ _ _
    have cs2' : Cs t n (wr g2 (b + 17) a m) (nxP t n q) := Cs_fr cs2 (fun c i x y z => rd_wr_ne _ _ _ _ (by omega) (by omega) (by omega))
    simp (disch := omega) only [↓as_D17 hb, ↓G_yre, y2.2.1, ↓G_yrs hb, ↓al_D17 X hb, k17, ↓K_yre]
    generalize wr g2 (b + 17) a m = g3 at f2 y2 k17 cs2' ⊢
    rw [if_neg (show ¬ m = -1 by omega), oC_as]
    refine k_125 hb hb0 hn y2 iv cs2' (fun o g4 o0 o1 fo4 cs4 => ?_) (fun c p g4 fk cf => ?_)
    case refine_2 =>
      have e3 : rd (wr g4 (b + 18) a (-1)) 17 3 = b + 13 := by
        rw [rd_wr_ne _ _ _ _ (by omega) (by omega) (by omega), fk _ _ (by omega) (by omega) (by omega)]; exact y2.2.1
      simp (disch := omega) only [↓as_D18 hb, ↓G_yre, e3, ↓G_yrs hb, ↓al_D18 X hb, rd_wr_eq]
      simp only [↓reduceIte]
      exact badw _ _ (by omega) f2 c p g4 fk cf
    have f4 : Fst b a g (wr g4 (b + 18) a o) := Fst_tr (Fst_tr f2 (Fst_FO fo4)) (Fst_wr _ _ (by omega) (by omega) a0)
    have y4 := YC_st hb hb0 hn yc f4
    have j17 : rd (wr g4 (b + 18) a o) (b + 17) a = m := by
      rw [rd_wr_ne _ _ _ _ (by omega) (by omega) (by omega), fo4 _ _ (by omega) (by omega) (by omega)]; exact k17
    have j18 : rd (wr g4 (b + 18) a o) (b + 18) a = o := rd_wr_eq _ _ _ _
    simp (disch := omega) only [↓as_D18 hb, ↓G_yre, y4.2.1, ↓G_yrs hb, ↓al_D18 X hb, j18]
    rw [if_neg (show ¬ o = -1 by omega)]
    obtain ⟨v0, v1, v2, v3, v4, v5⟩ := cAt_v (wr g4 (b + 18) a o) b a
    refine hs _ _ _ ⟨?_, fun z => by omega, fun _ => Or.inr ?_⟩ f4 (Cs_fr cs4 (fun c i x y z => rd_wr_ne _ _ _ _ (by omega) (by omega) (by omega))) (fun q0 h => nx_tr (nx_tr h))
    · rw [v0]; exact w14 f4
    · rw [v0, v3, v4, v5, w14 f4, j17, j18]
      exact ⟨⟨by omega, by omega, fun _ => ⟨m0, m1, o0, o1⟩, fun z => by omega⟩, rfl, fun _ => ⟨rfl, rfl⟩, fun z => by omega⟩
  rw [if_neg w12, if_neg w12]
  by_cases w17 : w = 17
  · subst w17
    rw [if_pos rfl, if_pos rfl]
    simp only [↓K_yre]
    rw [oC_as]
    refine k_125 hb hb0 hn yc iv cs (fun m g2 m0 m1 fo2 cs2 => ?_) (fun c p g2 fk cf => ?_)
    case refine_2 =>
      have e3 : rd (wr g2 (b + 17) a (-1)) 17 3 = b + 13 := by
        rw [rd_wr_ne _ _ _ _ (by omega) (by omega) (by omega), fk _ _ (by omega) (by omega) (by omega)]; exact yc.2.1
      simp (disch := omega) only [↓as_D17 hb, ↓G_yre, e3, ↓G_yrs hb, ↓al_D17 X hb, rd_wr_eq]
      simp only [↓reduceIte]
      exact badw _ _ (by omega) rf c p g2 fk cf
    have f2 : Fst b a g (wr g2 (b + 17) a m) := Fst_tr (Fst_FO fo2) (Fst_wr _ _ (by omega) (by omega) a0)
    have y2 := YC_st hb hb0 hn yc f2
    have k17 : rd (wr g2 (b + 17) a m) (b + 17) a = m := rd_wr_eq _ _ _ _
    have cs2' : Cs t n (wr g2 (b + 17) a m) (nxP t n q) := Cs_fr cs2 (fun c i x y z => rd_wr_ne _ _ _ _ (by omega) (by omega) (by omega))
    simp (disch := omega) only [↓as_D17 hb, ↓G_yre, y2.2.1, ↓G_yrs hb, ↓al_D17 X hb, k17, ↓K_yre]
    generalize wr g2 (b + 17) a m = g3 at f2 y2 k17 cs2' ⊢
    rw [if_neg (show ¬ m = -1 by omega), oC_as]
    refine k_124 hb hb0 hn y2 a0 a1 cs2' 1 60 (by omega) (by omega) (fun z g4 z0 z1 fo4 cs4 => ?_) (fun c p g4 fk cf => badw _ _ (by omega) f2 c p g4 fk cf)
    have f4 : Fst b a g (wr g4 (b + 19) a z) := Fst_tr (Fst_tr f2 (Fst_FO fo4)) (Fst_wr _ _ (by omega) (by omega) a0)
    have j17 : rd (wr g4 (b + 19) a z) (b + 17) a = m := by
      rw [rd_wr_ne _ _ _ _ (by omega) (by omega) (by omega), fo4 _ _ (by omega) (by omega) (by omega)]; exact k17
    have j19 : rd (wr g4 (b + 19) a z) (b + 19) a = z := rd_wr_eq _ _ _ _
    obtain ⟨v0, v1, v2, v3, v4, v5⟩ := cAt_v (wr g4 (b + 19) a z) b a
    refine hs _ _ _ ⟨?_, fun z => by omega, fun _ => Or.inr ?_⟩ f4 (Cs_fr cs4 (fun c i x y z => rd_wr_ne _ _ _ _ (by omega) (by omega) (by omega))) (fun q0 h => nx_tr (nx_tr h))
    · rw [v0]; exact w14 f4
    · rw [v0, v3, v4, v5, w14 f4, j17, j19]
      exact ⟨⟨by omega, by omega, fun x => by omega, fun _ => ⟨m0, m1, z0, z1⟩⟩, rfl, fun x => by omega, fun _ => ⟨rfl, rfl⟩⟩
  rw [if_neg w17, if_neg w17]
  by_cases w19 : w = 19
  · subst w19
    rw [if_pos rfl, if_pos rfl]
    simp only [↓K_tok]
    rw [oC_as]
    refine k_92 yc.2.2.1 cs (fun v g2 fo2 ct2 cs2 => ?_)
    have f2 : Fst b a g g2 := Fst_FO fo2
    have y2 := YC_st hb hb0 hn yc f2
    simp only [↓G_yre, ↓G_tok, ct2.2.2.2, ↓K_yre]
    rw [oC_as]
    refine k_122 hb hb0 hn y2 iv a0 a1 cs2 ct2 (fun q' r g3 o1 o2 f3 cs3 up => ?_) (fun c p g3 f3 cf => hf c p g3 (Fsk_st2 f2 f3) cf)
    have f23 := Fst_tr f2 f3
    obtain ⟨v0, v1, v2, v3, v4, v5⟩ := cAt_v g3 b a
    refine hs _ _ _ ⟨?_, fun _ => ?_, fun z => absurd (Or.inl rfl) z⟩ f23 cs3 up
    · rw [v0]; exact w14 f23
    · rw [v0, v1, v2, v3, v5, w14 f23]
      exact ⟨o1, o2⟩
  rw [if_neg w19, if_neg w19]
  by_cases w23 : w = 23
  · subst w23
    rw [if_pos rfl, if_pos rfl]
    simp only [↓K_yre]
    rw [oC_as]
    refine k_124 hb hb0 hn yc a0 a1 cs 1 99 (by omega) (by omega) (fun z g4 z0 z1 fo4 cs4 => ?_) (fun c p g4 fk cf => badw _ _ (by omega) rf c p g4 fk cf)
    have f4 : Fst b a g (wr g4 (b + 19) a z) := Fst_tr (Fst_FO fo4) (Fst_wr _ _ (by omega) (by omega) a0)
    have j19 : rd (wr g4 (b + 19) a z) (b + 19) a = z := rd_wr_eq _ _ _ _
    obtain ⟨v0, v1, v2, v3, v4, v5⟩ := cAt_v (wr g4 (b + 19) a z) b a
    refine hs _ _ _ ⟨?_, fun _ => ?_, fun z => absurd (Or.inr rfl) z⟩ f4 (Cs_fr cs4 (fun c i x y z => rd_wr_ne _ _ _ _ (by omega) (by omega) (by omega))) (fun q0 h => nx_tr h)
    · rw [v0]; exact w14 f4
    · rw [v0, v1, v2, v3, v5, w14 f4, j19]
      exact ⟨Or.inl ⟨rfl, z0, z1⟩, fun _ => ⟨rfl, rfl⟩, fun x => by omega⟩
  rw [if_neg w23, if_neg w23]
  obtain ⟨v0, v1, v2, v3, v4, v5⟩ := cAt_v g b a
  refine hs _ _ g ⟨?_, fun z => by omega, fun _ => ?_⟩ rf cs (fun q0 h => h)
  · rw [v0]; exact hw
  · rw [v0, v3, v4, v5, hw]
    by_cases w25 : w = 25
    · subst w25; exact Or.inl ⟨rfl, rfl⟩
    · unfold isSt at ws
      have e : pmP w = w := by
        unfold pmP
        rw [if_neg (by omega), if_neg (by omega), if_neg (by omega), if_neg (by omega)]
      exact Or.inr ⟨⟨by omega, by omega, fun x => by omega, fun x => by omega⟩, e, fun x => by omega, fun x => by omega⟩
end
