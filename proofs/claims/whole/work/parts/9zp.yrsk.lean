/-! YEARS told, the model: a STEP that is no end -/
def Fyr (g g' : Mem) : Prop := ∀ c i, 0 ≤ c → 0 ≤ i → (c ≠ 143 ∨ i < 12 ∨ (18 < i ∧ i ≠ 20 ∧ i ≠ 22 ∧ i ≠ 23) ∨ i = 16) → (c ≠ 144 ∨ i < 1888) → (c ≠ 145 ∨ i < 56) → c ≠ 151 → rd g' c i = rd g c i
theorem Fyr_tr {g g1 g2 : Mem} (h1 : Fyr g g1) (h2 : Fyr g1 g2) : Fyr g g2 := fun c i x y z w v u => (h2 c i x y z w v u).trans (h1 c i x y z w v u)
theorem Fyr_dm {g g1 : Mem} (h : Fdm g g1) : Fyr g g1 := fun c i x y z w v _ => h c i x y (by omega) w v
section
variable {X : Xs} {d : Nat} {g : Mem} {t : Int → Int} {n q N : Int} {s nm om : Int → Int} {R : Int → Int → Int} {np ns D : Int} {σ : Type} {P : Rr σ → Int → Mem → Prop} {f : Int → Sh → Mem → Option Rs}
theorem k_244_n (hr : txR t n) (iv : Iv N s) {g0 : Mem} (my : MY t n g0 s nm R np ns D om q) (mg : Mg t n g q) (n30 : ns < 30) {w : Int} (ws : isSt w) (hD : isOp w → D < 3) (h22 : rd g 143 22 = D) (h23 : rd g 143 23 = ns + 1) (h151 : ∀ l, 0 ≤ l → rd g 151 l = rd g0 151 l) (fr : ∀ i, 0 ≤ i → i < 1992 + 6 * np → rd g 144 i = rd g0 144 i) (fn : ∀ i, 0 ≤ i → rd g 145 i = rd g0 145 i) (rt : Rat g (1992 + 6 * np) (row0 (pmP w))) {J : Int → (Int → Int) → Rr σ} (hs : ∀ q' row g', MY t n g' s nm (adR R np row) (np + 1) (ns + 1) (if isOp w then D + 1 else D) (if isOp w then us om D np else om) (nxP t n q') → Fyr g g' → Ok (P (J q' row)) (f 1 S0 (ov g'))) (hf : ∀ c p g', Fyr g g' → Mf g' c p → Ok (P (.inl (c, p))) (f 0 S0 (ov g'))) : Ok (P (pRest t n w (nxP t n q) s nm fun q' r => pStop t n q' (J q' r))) (oC (EI X (d + 12) 244 147 [some (.inr (.inr 143)), some (.inl (pmP w)), some (.inl np), some (.inl (1992 + 6 * np)), some (.inl (if isOp w then 1 else 0)), some (.inl 6)] [] S0 (ov g)) f) := by
  obtain ⟨i0, i1, i2, i3, -⟩ := id iv
  obtain ⟨-, ⟨m0, m1, m2, m3⟩, a3, a4, a5, a6, a7, a8⟩ := id my
  have b99 : rd g 144 1899 = np := (fr _ (by omega) (by omega)).trans a3
  have pw : pmP w ≠ 21 := by
    unfold pmP
    unfold isSt at ws
    (repeat' split) <;> omega
  rw [e_244_147, if_neg (show ¬ (6 : Int) < 6 by omega), (G_mod g _ _).1, al_144 X g (i := 1899) (by omega) (by omega), b99, w32_id (x := np + 1) (by omega) (by omega), as_144 g (i := 1899) (np + 1) (by omega) (by omega), K_mod, oC_as]
  have f0 : Fdm g (wr g 144 1899 (np + 1)) := Fdm_wr _ _ (by omega) (by omega)
  refine k_218 hr (Mg_wr mg (by omega) (by omega) (by omega) _ _) (fun v g1 fm1 mg1 => ?_)
  have f1 : Fdm g g1 := Fdm_tr f0 (Fdm_FM fm1)
  have k1 : ∀ c i, 0 ≤ c → 0 ≤ i → (c ≠ 143 ∨ 15 < i) → (c ≠ 144 ∨ i ≠ 1899) → rd g1 c i = rd g c i := fun c i x y z u => by
    rw [fm1 c i x y (by omega)]
    by_cases e : c = 144
    · subst e; exact rd_wr_ix _ _ (by omega) y (by omega)
    · exact rd_wr_ne _ _ _ _ (by omega) x e
  have c99 : rd g1 144 1899 = np + 1 := by rw [fm1 _ _ (by omega) (by omega) (by omega)]; exact rd_wr_eq _ _ _ _
  have rt1 : Rat g1 (1992 + 6 * np) (row0 (pmP w)) := fun k x y => (k1 _ _ (by omega) (by omega) (by omega) (by omega)).trans (rt k x y)
  have nn1 : NMm g1 s nm := ⟨((k1 _ _ (by omega) (by omega) (by omega) (by omega)).trans (fr _ (by omega) (by omega))).trans m0, ((k1 _ _ (by omega) (by omega) (by omega) (by omega)).trans (fr _ (by omega) (by omega))).trans m1, fun i x y => ((k1 _ _ (by omega) x (by omega) (by omega)).trans (fn i x)).trans (m2 i x y), fun i x y => ((k1 _ _ (by omega) (by omega) (by omega) (by omega)).trans (fn _ (by omega))).trans (m3 i x y)⟩
  rw [K_mod, oC_as]
  refine k_243 (d := d + 1) hr mg1 nn1 iv (by omega) (by omega) ws rt1 (fun q' row g2 rt2 fr2 mg2 => ?_) (fun c p g2 fd mf => hf c p g2 (Fyr_dm (Fdm_tr f1 fd)) mf)
  have f2 : Fdm g g2 := Fdm_tr f1 (Fdm_rw fr2 (by omega))
  have k2 : ∀ c i, 0 ≤ c → 0 ≤ i → (c ≠ 143 ∨ 15 < i) → (c ≠ 144 ∨ (i ≠ 1899 ∧ i < 1992 + 6 * np)) → rd g2 c i = rd g c i := fun c i x y z u => (fr2 c i x y (by omega) (by omega)).trans (k1 c i x y z (by omega))
  have d99 : rd g2 144 1899 = np + 1 := (fr2 _ _ (by omega) (by omega) (by omega) (by omega)).trans c99
  rw [if_neg (show ¬ (1 : Int) = 0 by omega)]
  by_cases ho : isOp w
  · have hd := hD ho
    rw [if_pos ho, if_neg (show ¬ (1 : Int) = 0 by omega)]
    have e22 : rd g2 143 22 = D := (k2 _ _ (by omega) (by omega) (by omega) (by omega)).trans h22
    have e22' : rd (wr g2 151 D np) 143 22 = D := by rw [rd_wr_ne _ _ _ _ (by omega) (by omega) (by omega)]; exact e22
    have ew : w32 (D + 1) = D + 1 := w32_id (by omega) (by omega)
    simp (disch := omega) only [↓G_mod, e22, ↓as_151, e22', ew, ↓P_mod]
    rw [if_neg pw, K_mod, oC_as]
    have mg3 : Mg t n (wr (wr g2 151 D np) 143 22 (D + 1)) q' := by
      obtain ⟨⟨x1, x2⟩, x3, x4, x5⟩ := Mg_wr mg2 (c0 := 151) (by omega) (by omega) (by omega) D np
      refine ⟨⟨(rd_wr_ix _ _ (by omega) (by omega) (by omega)).trans x1, fun i y z => (rd_wr_ne _ _ _ _ (by omega) (by omega) (by omega)).trans (x2 i y z)⟩, ?_, (rd_wr_ix _ _ (by omega) (by omega) (by omega)).trans x4, (rd_wr_ix _ _ (by omega) (by omega) (by omega)).trans x5⟩
      unfold Ms
      rw [rd_wr_ix _ _ (by omega) (by omega) (by omega), rd_wr_ix _ _ (by omega) (by omega) (by omega), rd_wr_ix _ _ (by omega) (by omega) (by omega), rd_wr_ix _ _ (by omega) (by omega) (by omega)]
      exact x3
    have n3 : ∀ c i, 0 ≤ c → 0 ≤ i → (c ≠ 143 ∨ i ≠ 22) → c ≠ 151 → rd (wr (wr g2 151 D np) 143 22 (D + 1)) c i = rd g2 c i := fun c i x y z u => by
      by_cases e : c = 143
      · subst e; rw [rd_wr_ix _ _ (by omega) y (by omega), rd_wr_ne _ _ _ _ (by omega) x u]
      · rw [rd_wr_ne _ _ _ _ (by omega) x e, rd_wr_ne _ _ _ _ (by omega) x u]
    have e3 : rd (wr (wr g2 151 D np) 143 22 (D + 1)) 143 22 = D + 1 := rd_wr_eq _ _ _ _
    have o3 : ∀ l, 0 ≤ l → rd (wr (wr g2 151 D np) 143 22 (D + 1)) 151 l = if l = D then np else rd g0 151 l := fun l x => by
      rw [rd_wr_ne _ _ _ _ (by omega) (by omega) (by omega), rd_wr_if _ _ _ (by omega) x, k2 _ _ (by omega) x (by omega) (by omega), h151 l x]
    generalize wr (wr g2 151 D np) 143 22 (D + 1) = g3 at mg3 n3 e3 o3 ⊢
    have f3 : Fyr g g3 := fun c i x y z u v o => (n3 c i x y (by omega) o).trans (f2 c i x y (by omega) u v)
    refine k_223 (d := d + 9) hr mg3 (fun _ g4 fm4 mg4 => ?_) (fun g4 fn4 mf => hf _ _ g4 (Fyr_tr f3 (Fyr_dm (Fdm_FN fn4))) mf)
    refine hs q' row g4 ?_ (Fyr_tr f3 (Fyr_dm (Fdm_FM fm4)))
    rw [if_pos ho, if_pos ho]
    refine MY_ad my mg4 i1 i3 ?_ ?_ ?_ (fun l x y => ?_) (fun i x y z => ?_) (fun i x => ?_) (fun k x y => ?_) n30 (by omega)
    · rw [fm4 _ _ (by omega) (by omega) (by omega), n3 _ _ (by omega) (by omega) (by omega) (by omega)]; exact d99
    · rw [fm4 _ _ (by omega) (by omega) (by omega)]; exact e3
    · rw [fm4 _ _ (by omega) (by omega) (by omega), n3 _ _ (by omega) (by omega) (by omega) (by omega), k2 _ _ (by omega) (by omega) (by omega) (by omega)]; exact h23
    · rw [fm4 _ _ (by omega) x (by omega), o3 l x]
      unfold us
      by_cases e : l = D
      · rw [if_pos e, if_pos e]; omega
      · rw [if_neg e, if_neg e]
        have := a6 l x (by omega)
        omega
    · rw [fm4 _ _ (by omega) x (by omega), n3 _ _ (by omega) x (by omega) (by omega), k2 _ _ (by omega) x (by omega) (by omega)]; exact fr i x y
    · rw [fm4 _ _ (by omega) x (by omega), n3 _ _ (by omega) x (by omega) (by omega), k2 _ _ (by omega) x (by omega) (by omega)]; exact fn i x
    · rw [fm4 _ _ (by omega) (by omega) (by omega), n3 _ _ (by omega) (by omega) (by omega) (by omega)]; exact rt2 k x y
  · rw [if_neg ho, if_pos (show (0 : Int) = 0 from rfl), if_neg pw, K_mod, oC_as]
    refine k_223 (d := d + 9) hr mg2 (fun _ g4 fm4 mg4 => ?_) (fun g4 fn4 mf => hf _ _ g4 (Fyr_dm (Fdm_tr f2 (Fdm_FN fn4))) mf)
    refine hs q' row g4 ?_ (Fyr_dm (Fdm_tr f2 (Fdm_FM fm4)))
    rw [if_neg ho, if_neg ho]
    refine MY_ad my mg4 i1 i3 ?_ ?_ ?_ (fun l x y => ?_) (fun i x y z => ?_) (fun i x => ?_) (fun k x y => ?_) n30 (by omega)
    · rw [fm4 _ _ (by omega) (by omega) (by omega)]; exact d99
    · rw [fm4 _ _ (by omega) (by omega) (by omega), k2 _ _ (by omega) (by omega) (by omega) (by omega)]; exact h22
    · rw [fm4 _ _ (by omega) (by omega) (by omega), k2 _ _ (by omega) (by omega) (by omega) (by omega)]; exact h23
    · rw [fm4 _ _ (by omega) x (by omega), k2 _ _ (by omega) x (by omega) (by omega), h151 l x]
      have := a6 l x y
      omega
    · rw [fm4 _ _ (by omega) x (by omega), k2 _ _ (by omega) x (by omega) (by omega)]; exact fr i x y
    · rw [fm4 _ _ (by omega) x (by omega), k2 _ _ (by omega) x (by omega) (by omega)]; exact fn i x
    · rw [fm4 _ _ (by omega) (by omega) (by omega)]; exact rt2 k x y
end
