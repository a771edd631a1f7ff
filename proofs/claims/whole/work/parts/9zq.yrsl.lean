/-! YEARS told, the model: end -/
section
variable {X : Xs} {d : Nat} {g : Mem} {t : Int → Int} {n q N : Int} {s nm om : Int → Int} {R : Int → Int → Int} {np ns D : Int} {σ : Type} {P : Rr σ → Int → Mem → Prop} {f : Int → Sh → Mem → Option Rs}
theorem k_244_e (hr : txR t n) {g0 : Mem} (my : MY t n g0 s nm R np ns D om q) (mg : Mg t n g q) (hD : 0 < D) (h22 : rd g 143 22 = D) (h23 : rd g 143 23 = ns) (h151 : ∀ l, 0 ≤ l → rd g 151 l = rd g0 151 l) (fr : ∀ i, 0 ≤ i → i < 1992 + 6 * np → rd g 144 i = rd g0 144 i) (fn : ∀ i, 0 ≤ i → rd g 145 i = rd g0 145 i) (rt : Rat g (1992 + 6 * np) (row0 21)) {J : Rr σ} (hs : ∀ g', MY t n g' s nm (clR R np (om (D - 1))) (np + 1) ns (D - 1) om (nx2 t n q) → Fyr g g' → Ok (P J) (f 1 S0 (ov g'))) (hf : ∀ c p g', Fyr g g' → Mf g' c p → Ok (P (.inl (c, p))) (f 0 S0 (ov g'))) : Ok (P (pStop t n (nxP t n q) J)) (oC (EI X (d + 12) 244 147 [some (.inr (.inr 143)), some (.inl 21), some (.inl np), some (.inl (1992 + 6 * np)), some (.inl 0), some (.inl 6)] [] S0 (ov g)) f) := by
  obtain ⟨-, -, a3, a4, a5, a6, a7, a8⟩ := id my
  have om1 := a6 (D - 1) (by omega) (by omega)
  have b99 : rd g 144 1899 = np := (fr _ (by omega) (by omega)).trans a3
  rw [e_244_147, if_neg (show ¬ (6 : Int) < 6 by omega), (G_mod g _ _).1, al_144 X g (i := 1899) (by omega) (by omega), b99, w32_id (x := np + 1) (by omega) (by omega), as_144 g (i := 1899) (np + 1) (by omega) (by omega), K_mod, oC_as]
  refine k_218 hr (Mg_wr mg (by omega) (by omega) (by omega) _ _) (fun v g1 fm1 mg1 => ?_)
  have k1 : ∀ c i, 0 ≤ c → 0 ≤ i → (c ≠ 143 ∨ 15 < i) → (c ≠ 144 ∨ i ≠ 1899) → rd g1 c i = rd g c i := fun c i x y z u => by
    rw [fm1 c i x y (by omega)]
    by_cases e : c = 144
    · subst e; exact rd_wr_ix _ _ (by omega) y (by omega)
    · exact rd_wr_ne _ _ _ _ (by omega) x e
  have f1 : Fyr g g1 := Fyr_dm (Fdm_tr (Fdm_wr _ _ (by omega) (by omega)) (Fdm_FM fm1))
  have c99 : rd g1 144 1899 = np + 1 := by rw [fm1 _ _ (by omega) (by omega) (by omega)]; exact rd_wr_eq _ _ _ _
  have e243 : MI X (d + 11) 243 [.inr (.inr 143), .inl 21, .inl (1992 + 6 * np)] S0 (ov g1) = some (1, S0, ov g1) := by
    rw [e_243]
    rfl
  rw [K_mod, oC_as, oC_of e243, if_neg (show ¬ (1 : Int) = 0 by omega), if_pos (show (0 : Int) = 0 from rfl), if_pos (show (21 : Int) = 21 from rfl)]
  have x22 : rd g1 143 22 = D := (k1 _ _ (by omega) (by omega) (by omega) (by omega)).trans h22
  have ew : w32 (D - 1) = D - 1 := w32_id (by omega) (by omega)
  have y22 : rd (wr g1 143 22 (D - 1)) 143 22 = D - 1 := rd_wr_eq _ _ _ _
  have y151 : rd (wr g1 143 22 (D - 1)) 151 (D - 1) = om (D - 1) := by
    rw [rd_wr_ne _ _ _ _ (by omega) (by omega) (by omega), k1 _ _ (by omega) (by omega) (by omega) (by omega), h151 _ (by omega)]; exact om1.1
  have z22 : rd (wr (wr g1 143 22 (D - 1)) 144 (1992 + 6 * np + 4) (om (D - 1))) 143 22 = D - 1 := by rw [rd_wr_ne _ _ _ _ (by omega) (by omega) (by omega)]; exact y22
  have z151 : rd (wr (wr g1 143 22 (D - 1)) 144 (1992 + 6 * np + 4) (om (D - 1))) 151 (D - 1) = om (D - 1) := by rw [rd_wr_ne _ _ _ _ (by omega) (by omega) (by omega)]; exact y151
  have w1 : w32 (1992 + 6 * np + 4) = 1992 + 6 * np + 4 := w32_id (by omega) (by omega)
  have w2 : w32 (w32 (1992 + w32 (6 * om (D - 1))) + 4) = 1992 + 6 * om (D - 1) + 4 := by
    rw [w32_id (x := 6 * om (D - 1)) (by omega) (by omega), w32_id (x := 1992 + 6 * om (D - 1)) (by omega) (by omega)]
    exact w32_id (by omega) (by omega)
  simp (disch := omega) only [↓G_mod, x22, ew, ↓P_mod, y22, ↓al_151, y151, w1, ↓as_144, z22, z151, w2, ↓K_mod]
  rw [oC_as]
  have mg2 : Mg t n (wr g1 143 22 (D - 1)) (nxP t n q) := by
    obtain ⟨⟨x1, x2⟩, x3, x4, x5⟩ := mg1
    refine ⟨⟨(rd_wr_ix _ _ (by omega) (by omega) (by omega)).trans x1, fun i y z => (rd_wr_ne _ _ _ _ (by omega) (by omega) (by omega)).trans (x2 i y z)⟩, ?_, (rd_wr_ix _ _ (by omega) (by omega) (by omega)).trans x4, (rd_wr_ix _ _ (by omega) (by omega) (by omega)).trans x5⟩
    unfold Ms
    rw [rd_wr_ix _ _ (by omega) (by omega) (by omega), rd_wr_ix _ _ (by omega) (by omega) (by omega), rd_wr_ix _ _ (by omega) (by omega) (by omega), rd_wr_ix _ _ (by omega) (by omega) (by omega)]
    exact x3
  have mg3 := Mg_wr (Mg_wr mg2 (c0 := 144) (by omega) (by omega) (by omega) (1992 + 6 * np + 4) (om (D - 1))) (c0 := 144) (by omega) (by omega) (by omega) (1992 + 6 * om (D - 1) + 4) np
  have n3 : ∀ c i, 0 ≤ c → 0 ≤ i → (c ≠ 143 ∨ i ≠ 22) → (c ≠ 144 ∨ (i ≠ 1992 + 6 * np + 4 ∧ i ≠ 1992 + 6 * om (D - 1) + 4)) → rd (wr (wr (wr g1 143 22 (D - 1)) 144 (1992 + 6 * np + 4) (om (D - 1))) 144 (1992 + 6 * om (D - 1) + 4) np) c i = rd g1 c i := fun c i x y z u => by
    by_cases e : c = 144
    · subst e; rw [rd_wr_ix _ _ (by omega) y (by omega), rd_wr_ix _ _ (by omega) y (by omega), rd_wr_ne _ _ _ _ (by omega) x (by omega)]
    · rw [rd_wr_ne _ _ _ _ (by omega) x e, rd_wr_ne _ _ _ _ (by omega) x e]
      by_cases e2 : c = 143
      · subst e2; exact rd_wr_ix _ _ (by omega) y (by omega)
      · exact rd_wr_ne _ _ _ _ (by omega) x e2
  have p22 : rd (wr (wr (wr g1 143 22 (D - 1)) 144 (1992 + 6 * np + 4) (om (D - 1))) 144 (1992 + 6 * om (D - 1) + 4) np) 143 22 = D - 1 := by rw [rd_wr_ne _ _ _ _ (by omega) (by omega) (by omega)]; exact z22
  have p4 : rd (wr (wr (wr g1 143 22 (D - 1)) 144 (1992 + 6 * np + 4) (om (D - 1))) 144 (1992 + 6 * om (D - 1) + 4) np) 144 (1992 + 6 * om (D - 1) + 4) = np := rd_wr_eq _ _ _ _
  have p5 : rd (wr (wr (wr g1 143 22 (D - 1)) 144 (1992 + 6 * np + 4) (om (D - 1))) 144 (1992 + 6 * om (D - 1) + 4) np) 144 (1992 + 6 * np + 4) = om (D - 1) := by
    rw [rd_wr_ix _ _ (by omega) (by omega) (by omega)]; exact rd_wr_eq _ _ _ _
  generalize wr (wr (wr g1 143 22 (D - 1)) 144 (1992 + 6 * np + 4) (om (D - 1))) 144 (1992 + 6 * om (D - 1) + 4) np = g3 at mg3 n3 p22 p4 p5 ⊢
  have f3 : Fyr g g3 := fun c i x y u v o w => (n3 c i x y (by omega) (by omega)).trans (f1 c i x y u v o w)
  refine k_223 (d := d + 9) hr mg3 (fun _ g4 fm4 mg4 => ?_) (fun g4 fn4 mf => hf _ _ g4 (Fyr_tr f3 (Fyr_dm (Fdm_FN fn4))) mf)
  refine hs g4 ?_ (Fyr_tr f3 (Fyr_dm (Fdm_FM fm4)))
  refine MY_cl my mg4 hD ?_ ?_ ?_ (fun l x => ?_) (fun i x y z u => ?_) ?_ (fun i x => ?_) (fun k x y => ?_)
  · rw [fm4 _ _ (by omega) (by omega) (by omega), n3 _ _ (by omega) (by omega) (by omega) (by omega)]; exact c99
  · rw [fm4 _ _ (by omega) (by omega) (by omega)]; exact p22
  · rw [fm4 _ _ (by omega) (by omega) (by omega), n3 _ _ (by omega) (by omega) (by omega) (by omega), k1 _ _ (by omega) (by omega) (by omega) (by omega)]; exact h23
  · rw [fm4 _ _ (by omega) x (by omega), n3 _ _ (by omega) x (by omega) (by omega), k1 _ _ (by omega) x (by omega) (by omega)]; exact h151 l x
  · rw [fm4 _ _ (by omega) x (by omega), n3 _ _ (by omega) x (by omega) (by omega), k1 _ _ (by omega) x (by omega) (by omega)]; exact fr i x y
  · rw [fm4 _ _ (by omega) (by omega) (by omega)]; exact p4
  · rw [fm4 _ _ (by omega) x (by omega), n3 _ _ (by omega) x (by omega) (by omega), k1 _ _ (by omega) x (by omega) (by omega)]; exact fn i x
  · rw [fm4 _ _ (by omega) (by omega) (by omega)]
    unfold us
    by_cases e : k = 4
    · rw [if_pos e, e]; exact p5
    · rw [if_neg e, n3 _ _ (by omega) (by omega) (by omega) (by omega), k1 _ _ (by omega) (by omega) (by omega) (by omega)]; exact rt k x y
end
