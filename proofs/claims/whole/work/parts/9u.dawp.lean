/-! a DAWN told, the model: each part -/
section
variable {X : Xs} {d : Nat} {g : Mem} {t : Int → Int} {n q : Int} {s nm : Int → Int} {told : Int} {σ : Type} {P : Rr σ → Int → Mem → Prop} {f : Int → Sh → Mem → Option Rs}
theorem DMs_rule (dm : DMs g s nm) {w : Int} (x : Int) (w0 : 0 ≤ w) (w1 : w < 4) : DMs (wr g 144 (1890 + w) x) (us s (2 + w) x) nm := by
  refine ⟨fun i i0 i1 => ?_, fun i i0 i1 => ?_, fun i i0 i1 => ?_⟩
  · rw [rd_wr_if _ _ _ (by omega) (by omega), dm.1 i i0 i1]
    unfold us
    by_cases z : i = 2 + w
    · rw [if_pos (by omega), if_pos z]
    · rw [if_neg (by omega), if_neg z]
  · rw [us_ne _ _ (by omega)] at i1
    rw [rd_wr_ne _ _ _ _ (by omega) (by omega) (by omega)]; exact dm.2.1 i i0 i1
  · rw [us_ne _ _ (by omega)] at i1
    rw [rd_wr_ne _ _ _ _ (by omega) (by omega) (by omega)]; exact dm.2.2 i i0 i1
theorem DMs_x (dx : DMx g s nm (s 1 - 1)) {g' : Mem} (fm : FMt (wr g 144 1889 (s 1)) g') : DMs g' s nm := by
  refine ⟨fun i i0 i1 => ?_, fun i i0 i1 => ?_, fun i i0 i1 => ?_⟩
  · rw [fm _ _ (by omega) (by omega) (by omega), rd_wr_if _ _ _ (by omega) (by omega)]
    by_cases z : i = 1
    · rw [if_pos (by omega), z]
    · rw [if_neg (by omega)]; exact dx.1 i i0 i1 z
  · rw [fm _ _ (by omega) (by omega) (by omega), rd_wr_ne _ _ _ _ (by omega) (by omega) (by omega)]; exact dx.2.2.1 i i0 i1
  · rw [fm _ _ (by omega) (by omega) (by omega), rd_wr_ne _ _ _ _ (by omega) (by omega) (by omega)]; exact dx.2.2.2 i i0 i1
theorem DMx_held {c1 : Int} (dx : DMx g s nm c1) {m : Int} (x : Int) (m0 : 0 ≤ m) (h0 : s 0 ≤ 8) : DMx (wr g 144 (1888 + (44 + 10 * m) + 3) x) (us s (44 + 10 * m + 3) x) nm c1 := by
  refine ⟨fun i i0 i1 z => ?_, ?_, fun i i0 i1 => ?_, fun i i0 i1 => ?_⟩
  · rw [rd_wr_if _ _ _ (by omega) (by omega), dx.1 i i0 i1 z]
    unfold us
    by_cases z : i = 44 + 10 * m + 3
    · rw [if_pos (by omega), if_pos z]
    · rw [if_neg (by omega), if_neg z]
  · rw [rd_wr_ix _ _ (by omega) (by omega) (by omega)]; exact dx.2.1
  · rw [us_ne _ _ (by omega)] at i1
    rw [rd_wr_ne _ _ _ _ (by omega) (by omega) (by omega)]; exact dx.2.2.1 i i0 i1
  · rw [us_ne _ _ (by omega)] at i1
    rw [rd_wr_ne _ _ _ _ (by omega) (by omega) (by omega)]; exact dx.2.2.2 i i0 i1
theorem k_169 (hr : txR t n) (mg : Mg t n g q) {K : Rr σ} (hs : ∀ g', FMt g g' → Mg t n g' (nxP t n q) → Ok (P K) (f 1 S0 (ov g'))) (hf : ∀ g', FNt g g' → Mf g' (fcP t n q 2) q → Ok (P (pBad t n q 2)) (f 0 S0 (ov g'))) : Ok (P (pStop t n q K)) (oC (EI X (d + 3) 239 169 [some (.inr (.inr 143)), none, some (.inl 1)] [] S0 (ov g)) f) := by
  rw [e_239_169, if_neg (by omega), K_mod, oC_as]
  refine k_223 hr mg (fun _ g1 fm m1 => ?_) (fun g1 fn mf => ?_)
  · exact hs g1 fm m1
  · exact hf g1 fn mf
theorem e_169_0 (S : Sh) (h : Mem) : EI X (d + 1) 239 169 [some (.inr (.inr 143)), none, some (.inl 0)] [] S h = some (0, S, h) := by
  rw [e_239_169, if_pos rfl]
theorem k_239 (hr : txR t n) (hk : kdP t n q ≠ 0) (mg : Mg t n g q) (dm : DMs g s nm) (zr : Zr s) (pu : PU s) (tb : TB (rd g 143 20) told) {K : Int → (Int → Int) → (Int → Int) → Int → Rr σ} (hs : ∀ q' s' nm' told' g', gdQ t n g s' nm' told' q q' g' → Ok (P (K q' s' nm' told')) (f 1 S0 (ov g'))) (hf : ∀ c p g', Fdm g g' → Mf g' c p → Ok (P (.inl (c, p))) (f 0 S0 (ov g'))) : Ok (P (pPart t n q s nm told K)) (oC (MI X (d + 10) 239 [.inr (.inr 143)] S0 (ov g)) f) := by
  obtain ⟨i0, i1, i2, i3, -⟩ := id pu.1
  have wr' := wd_r t n q
  have pw : ∀ b, 0 ≤ b → b < 26 → (pmP (wdP t n q) = pmP b ↔ wdP t n q = b) := fun b b0 b1 => pm_eq wr'.1 wr'.2 (by omega) b1
  rw [e_239]
  simp only [↓K_mod, ↓oC_of (m_220 hr mg.1 mg.2.1)]
  unfold pPart
  have bad : Ok (P (pBad t n q 2)) (oC (oC (MI X (d + 9) 221 [.inr (.inr 143), .inl 2] S0 (ov g)) fun r2 S2 m2 => if r2 = 0 ∨ r2 = 1 then some (r2, S2, m2) else none) f) := by
    rw [oC_as]
    exact k_221 mg 2 (fun g1 fn mf => hf _ _ g1 (Fdm_FN fn) mf)
  by_cases w1 : 0 ≤ wdP t n q ∧ wdP t n q < 4
  · rw [if_pos w1]
    have e : pmP (wdP t n q) = wdP t n q := by
      unfold pmP
      rw [if_neg (by omega), if_neg (by omega), if_neg (by omega), if_neg (by omega)]
    rw [e]
    generalize hw : wdP t n q = w at w1 ⊢
    rw [if_neg (by omega), if_neg (by omega), if_neg (by omega)]
    simp only [↓G_mod, ↓K_mod, ↓P_mod]
    obtain ⟨ta, tb', tc, td, te⟩ := id tb
    have te' := te w w1.1 w1.2
    have m2 := am_and_1 (am_shr told w)
    unfold pRule
    by_cases z : am_and (am_shr told w) 1 = 0
    case neg =>
      rw [if_neg z, if_pos (by omega), oC_as]
      exact k_221 mg 5 (fun g1 fn mf => hf _ _ g1 (Fdm_FN fn) mf)
    rw [if_pos z, if_neg (by omega), if_neg (by omega)]
    rw [oC_as]
    have fdw : Fdm g (wr g 143 20 (am_or (rd g 143 20) (am_shl 1 w))) := Fdm_wr _ _ (by omega) (by omega)
    have tbw := TB_rule tb w1.1 w1.2
    refine k_218 hr (Mg_w20 mg _) (fun v g1 fm1 mg1 => ?_)
    have fd1 : Fdm g g1 := Fdm_tr fdw (Fdm_FM fm1)
    have t1 : rd g1 143 20 = am_or (rd g 143 20) (am_shl 1 w) := by
      rw [fm1 _ _ (by omega) (by omega) (by omega)]; exact rd_wr_eq _ _ _ _
    have dm1 : DMs g1 s nm := ⟨fun i a b => by rw [fm1 _ _ (by omega) (by omega) (by omega), rd_wr_ne _ _ _ _ (by omega) (by omega) (by omega)]; exact dm.1 i a b, fun i a b => by rw [fm1 _ _ (by omega) (by omega) (by omega), rd_wr_ne _ _ _ _ (by omega) (by omega) (by omega)]; exact dm.2.1 i a b, fun i a b => by rw [fm1 _ _ (by omega) (by omega) (by omega), rd_wr_ne _ _ _ _ (by omega) (by omega) (by omega)]; exact dm.2.2 i a b⟩
    -- its number
    have go : Ok (P (pNum t n (nxP t n q) (roLow w) (roHigh w) fun x => pStop t n (nx2 t n q) (K (nxP t n (nx2 t n q)) (us s (2 + w) x) nm (am_or told (am_shl 1 w))))) (oC (oC (MI X (d + 9) 225 [.inr (.inr 143), .inl (1890 + w), .inl (roLow w), .inl (roHigh w)] S0 (ov g1)) fun r S m => EI X (d + 9 + 1) 239 169 [some (.inr (.inr 143)), none, some (.inl r)] [] S m) f) := by
      rw [oC_as]
      refine k_225 hr mg1 (1890 + w) _ _ (by omega) (by omega) (fun a b g2 fm2 mg2 => ?_) (fun c g2 fn mf => ?_)
      · have dm2 := DMs_FM (DMs_rule dm1 (vaP t n (nxP t n q)) w1.1 w1.2) fm2
        have fd2 : Fdm g g2 := Fdm_tr (Fdm_tr fd1 (Fdm_wr _ _ (by omega) (by omega))) (Fdm_FM fm2)
        refine k_169 hr mg2 (fun g3 fm3 mg3 => ?_) (fun g3 fn mf => hf _ _ g3 (Fdm_tr fd2 (Fdm_FN fn)) mf)
        refine hs _ _ _ _ g3 ⟨mg3, DMs_FM dm2 fm3, fun j a b => ?_, PU_rule pu w1.1 w1.2 a b, ?_, Fdm_tr fd2 (Fdm_FM fm3), nx_tr (nx_tr (nx_lt t hk))⟩
        · rw [us_ne _ _ (by omega)] at a
          rw [us_ne _ _ (by omega)]
          exact zr j a b
        · rw [fm3 _ _ (by omega) (by omega) (by omega), fm2 _ _ (by omega) (by omega) (by omega), rd_wr_ne _ _ _ _ (by omega) (by omega) (by omega), t1]
          exact tbw
      · show Ok _ (oC (EI X (d + 9 + 1) 239 169 [some (.inr (.inr 143)), none, some (.inl 0)] [] S0 (ov g2)) f)
        rw [e_169_0]
        exact hf _ _ g2 (Fdm_tr fd1 (Fdm_FN fn)) mf
    have hc : w = 0 ∨ w = 1 ∨ w = 2 ∨ w = 3 := by omega
    show Ok _ (oC (EI X (d + 10) 239 66 [some (.inr (.inr 143)), some (.inl w), none] [] S0 (ov g1)) f)
    rw [e_239_66]
    rcases hc with rfl | rfl | rfl | rfl
    · rw [if_pos rfl, K_mod]; exact go
    · rw [if_neg (by omega), if_pos rfl, K_mod]; exact go
    · rw [if_neg (by omega), if_neg (by omega), if_pos rfl, K_mod]; exact go
    · rw [if_neg (by omega), if_neg (by omega), if_neg (by omega), if_pos rfl, K_mod]; exact go
  rw [if_neg w1]
  by_cases w4 : wdP t n q = 4
  · rw [if_pos w4, w4]
    rw [show pmP 4 = 4 from rfl, if_neg (by omega), if_neg (by omega), if_pos (by omega)]
    simp only [↓G_mod, ↓P_mod]
    rw [if_pos (by omega)]
    have fdw : Fdm g (wr g 143 20 (am_or (rd g 143 20) (am_shl 1 4))) := Fdm_wr _ _ (by omega) (by omega)
    have tbw := TB_big tb (w := 4) (by omega) (by omega)
    have dmw : DMs (wr g 143 20 (am_or (rd g 143 20) (am_shl 1 4))) s nm := ⟨fun i a b => by rw [rd_wr_ne _ _ _ _ (by omega) (by omega) (by omega)]; exact dm.1 i a b, fun i a b => by rw [rd_wr_ne _ _ _ _ (by omega) (by omega) (by omega)]; exact dm.2.1 i a b, fun i a b => by rw [rd_wr_ne _ _ _ _ (by omega) (by omega) (by omega)]; exact dm.2.2 i a b⟩
    have t1 : rd (wr g 143 20 (am_or (rd g 143 20) (am_shl 1 4))) 143 20 = am_or (rd g 143 20) (am_shl 1 4) := rd_wr_eq _ _ _ _
    have mgw := Mg_w20 mg (am_or (rd g 143 20) (am_shl 1 4))
    generalize wr g 143 20 (am_or (rd g 143 20) (am_shl 1 4)) = g1 at fdw dmw t1 mgw ⊢
    rw [e_239_66, if_neg (by omega), if_neg (by omega), if_neg (by omega), if_neg (by omega), if_pos rfl, K_mod, oC_as]
    unfold pThing
    refine k_236 (d := d + 1) hr mgw dmw pu (fun r w k g2 s8 fr fm2 mg2 => ?_) (fun c p g2 fd mf => ?_)
    · obtain ⟨dt, zt, ft⟩ := DMs_th dmw zr i0 s8 (vaP t n (nxP t n q)) r w k
      have dm2 := DMs_FM dt fm2
      have fd2 : Fdm g g2 := Fdm_tr (Fdm_tr fdw ft) (Fdm_FM fm2)
      refine k_169 hr mg2 (fun g3 fm3 mg3 => ?_) (fun g3 fn mf => hf _ _ g3 (Fdm_tr fd2 (Fdm_FN fn)) mf)
      refine hs _ _ _ _ g3 ⟨mg3, DMs_FM dm2 fm3, zt, PU_fg pu s8 fr, ?_, Fdm_tr fd2 (Fdm_FM fm3), nx_tr (nx_tr (nx_tr (nx_tr (nx_tr (nx_tr (nx_tr (nx_tr (nx_lt t hk))))))))⟩
      rw [fm3 _ _ (by omega) (by omega) (by omega), fm2 _ _ (by omega) (by omega) (by omega)]
      unfold thM
      rw [rd_wr_ne _ _ _ _ (by omega) (by omega) (by omega), rd_wr_ne _ _ _ _ (by omega) (by omega) (by omega), rd_wr_ne _ _ _ _ (by omega) (by omega) (by omega), rd_wr_ne _ _ _ _ (by omega) (by omega) (by omega), rd_wr_ne _ _ _ _ (by omega) (by omega) (by omega), t1]
      exact tbw
    · show Ok _ (oC (EI X (d + 9 + 1) 239 169 [some (.inr (.inr 143)), none, some (.inl 0)] [] S0 (ov g2)) f)
      rw [e_169_0]
      exact hf _ _ g2 (Fdm_tr fdw fd) mf
  rw [if_neg w4]
  by_cases w8 : wdP t n q = 8
  · rw [if_pos w8, w8]
    rw [show pmP 8 = 5 from rfl, if_neg (by omega), if_neg (by omega), if_pos (by omega)]
    simp only [↓G_mod, ↓P_mod]
    rw [if_pos (by omega)]
    have fdw : Fdm g (wr g 143 20 (am_or (rd g 143 20) (am_shl 1 5))) := Fdm_wr _ _ (by omega) (by omega)
    have tbw := TB_big tb (w := 5) (by omega) (by omega)
    have dmw : DMs (wr g 143 20 (am_or (rd g 143 20) (am_shl 1 5))) s nm := ⟨fun i a b => by rw [rd_wr_ne _ _ _ _ (by omega) (by omega) (by omega)]; exact dm.1 i a b, fun i a b => by rw [rd_wr_ne _ _ _ _ (by omega) (by omega) (by omega)]; exact dm.2.1 i a b, fun i a b => by rw [rd_wr_ne _ _ _ _ (by omega) (by omega) (by omega)]; exact dm.2.2 i a b⟩
    have t1 : rd (wr g 143 20 (am_or (rd g 143 20) (am_shl 1 5))) 143 20 = am_or (rd g 143 20) (am_shl 1 5) := rd_wr_eq _ _ _ _
    have mgw := Mg_w20 mg (am_or (rd g 143 20) (am_shl 1 5))
    generalize wr g 143 20 (am_or (rd g 143 20) (am_shl 1 5)) = g1 at fdw dmw t1 mgw ⊢
    rw [e_239_66, if_neg (by omega), if_neg (by omega), if_neg (by omega), if_neg (by omega), if_neg (by omega), K_mod, oC_as]
    unfold pMan
    have tm0 : ∀ p l, rd (maM g1 (s 1) (vaP t n (nxP t n q)) p l) 143 20 = rd g1 143 20 := fun p l => by
      unfold maM
      rw [rd_wr_ne _ _ _ _ (by omega) (by omega) (by omega), rd_wr_ne _ _ _ _ (by omega) (by omega) (by omega), rd_wr_ne _ _ _ _ (by omega) (by omega) (by omega), rd_wr_ne _ _ _ _ (by omega) (by omega) (by omega), rd_wr_ne _ _ _ _ (by omega) (by omega) (by omega)]
    have zr' : ∀ p l, Zr (mnS s p l) := fun p l j a b => by
      obtain ⟨f1, -, -, -, -, f6⟩ := mn_all (s := s) p l i2
      rw [f6 0 (by omega) (by omega)] at a
      rw [f6 j (by omega) (by omega)]
      exact zr j a b
    refine k_238 hr mgw dmw pu (fun p l g2 l6 p0 p1 l0 l1 fm2 mg2 => ?_) (fun p l h g2 l6 p0 p1 l0 l1 h0 h1 ho fm2 mg2 => ?_) (fun c p g2 fd mf => ?_)
    · obtain ⟨f1, -, -, -, -, f6⟩ := mn_all (s := s) p l i2
      obtain ⟨dx, ft⟩ := DMx_ma dmw i2 l6 i1 (vaP t n (nxP t n q)) p l
      have dm2 : DMs g2 (mnS s p l) (us nm (8 + s 1) (vaP t n (nxP t n q))) := DMs_x (g := maM g1 (s 1) (vaP t n (nxP t n q)) p l) (by rw [f1, show s 1 + 1 - 1 = s 1 by omega]; exact dx) (by rw [f1]; exact fm2)
      have fd2 : Fdm g g2 := Fdm_tr (Fdm_tr (Fdm_tr fdw ft) (Fdm_wr _ _ (by omega) (by omega))) (Fdm_FM fm2)
      refine k_169 hr mg2 (fun g3 fm3 mg3 => ?_) (fun g3 fn mf => hf _ _ g3 (Fdm_tr fd2 (Fdm_FN fn)) mf)
      refine hs _ _ _ _ g3 ⟨mg3, DMs_FM dm2 fm3, zr' p l, PU_mn pu l6 p0 p1 l0 l1, ?_, Fdm_tr fd2 (Fdm_FM fm3), nx_tr (nx_tr (nx_tr (nx_tr (nx_tr (nx_tr (nx_lt t hk))))))⟩
      rw [fm3 _ _ (by omega) (by omega) (by omega), fm2 _ _ (by omega) (by omega) (by omega), rd_wr_ne _ _ _ _ (by omega) (by omega) (by omega), tm0, t1]
      exact tbw
    · obtain ⟨f1, -, -, -, f5, f6⟩ := mn_all (s := s) p l i2
      have s0' := f6 0 (by omega) (by omega)
      obtain ⟨dx, ft⟩ := DMx_ma dmw i2 l6 i1 (vaP t n (nxP t n q)) p l
      have dy := DMx_held dx (m := s 1) h i2 (by omega)
      have u1 : us (mnS s p l) (44 + 10 * s 1 + 3) h 1 = s 1 + 1 := (us_ne _ _ (by omega)).trans f1
      have dm2 : DMs g2 (us (mnS s p l) (44 + 10 * s 1 + 3) h) (us nm (8 + s 1) (vaP t n (nxP t n q))) := DMs_x (by rw [u1, show s 1 + 1 - 1 = s 1 by omega]; exact dy) (by rw [u1]; exact fm2)
      have fd2 : Fdm g g2 := Fdm_tr (Fdm_tr (Fdm_tr (Fdm_tr fdw ft) (Fdm_wr _ _ (by omega) (by omega))) (Fdm_wr _ _ (by omega) (by omega))) (Fdm_FM fm2)
      refine k_169 hr mg2 (fun g3 fm3 mg3 => ?_) (fun g3 fn mf => hf _ _ g3 (Fdm_tr fd2 (Fdm_FN fn)) mf)
      refine hs _ _ _ _ g3 ⟨mg3, DMs_FM dm2 fm3, fun j a b => ?_, PU_held (PU_mn pu l6 p0 p1 l0 l1) i2 (by omega) h0 (by omega) ho, ?_, Fdm_tr fd2 (Fdm_FM fm3), nx_tr (nx_tr (nx_tr (nx_tr (nx_tr (nx_tr (nx_tr (nx_tr (nx_lt t hk))))))))⟩
      · rw [us_ne _ _ (by omega)] at a
        rw [us_ne _ _ (by omega)]
        exact zr' p l j a b
      · rw [fm3 _ _ (by omega) (by omega) (by omega), fm2 _ _ (by omega) (by omega) (by omega), rd_wr_ne _ _ _ _ (by omega) (by omega) (by omega), rd_wr_ne _ _ _ _ (by omega) (by omega) (by omega), tm0, t1]
        exact tbw
    · show Ok _ (oC (EI X (d + 9 + 1) 239 169 [some (.inr (.inr 143)), none, some (.inl 0)] [] S0 (ov g2)) f)
      rw [e_169_0]
      exact hf _ _ g2 (Fdm_tr fdw fd) mf
  rw [if_neg w8]
  have x4 := pw 4 (by omega) (by omega)
  have x8 := pw 8 (by omega) (by omega)
  rw [show pmP 4 = 4 from rfl] at x4
  rw [show pmP 8 = 5 from rfl] at x8
  by_cases a : pmP (wdP t n q) < 0
  · rw [if_pos a]; exact bad
  · rw [if_neg a]
    have big : 5 < pmP (wdP t n q) := by
      unfold pmP at a x4 x8 ⊢
      (repeat' split at a) <;> (repeat' split) <;> omega
    rw [if_pos big]
    exact bad
end
