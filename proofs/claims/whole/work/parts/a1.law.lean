/-! THE LAW: each case, the loop -/
section
variable {X : Xs} {d : Nat} {g : Mem} {i N : Int}
theorem al_sc (X : Xs) (S : Sh) (h : Mem) {i : Int} (h0 : 0 ≤ i) (h1 : i < (X.1 : Int)) {A : Type} (n : A) (f : Int → A) : oK (aldI X S h (-2) i) n f = f (X.2 i.toNat) := by
  unfold aldI
  rw [if_pos (by decide)]
  have e : am_ro X (-2) = X := rfl
  rw [e, if_pos ⟨h0, h1⟩]
  rfl
theorem lcmp_self (x : Int) : am_lcmp x x = 0 := by
  unfold am_lcmp
  (repeat' split) <;> first | rfl | omega
theorem IV_up {M : Int} (iv : IV N g) (l : N ≤ M) : IV M g := IV_Fz iv l (fun _ _ _ _ _ _ _ _ => rfl) iv.2.2.2.1
/-- the law's locals -/
abbrev LL (i : Int) : Lv := [some (.inr (.inr (-2))), some (.inr (.inr 1)), some (.inr (.inr 143)), some (.inl i)]
/-- one case of the law goes through -/
def Lg (X : Xs) (d : Nat) (i N : Int) (o : Option Rs) : Prop := ∃ g', IV (N + 300) g' ∧ o = EI X (d + 41) 338 18 (LL (i + 6)) [] S0 (ov g')
theorem Lg_end (l0 : 0 ≤ i) (l1 : i ≤ 3072) {M : Int} (iv : IV M g) (l : M ≤ N + 300) : Lg X d i N (EI X (d + 41) 338 1842 (LL i) [] S0 (ov g)) := by
  refine ⟨g, IV_up iv l, ?_⟩
  show EI X (d + 41) 338 1842 [some (.inr (.inr (-2))), some (.inr (.inr 1)), some (.inr (.inr 143)), some (.inl i)] [] S0 (ov g) = _
  rw [f_338_1842, w32_id (x := i + 6) (by omega) (by omega)]
theorem Pr_out {M : Int} {o : Option Rs} {om : Mem → Option Rs} (p : Pr (IV M) o om) : ∃ v g1 g2, o = some (v, S0, ov g1) ∧ om g1 = some (v, S0, ov g2) ∧ IV M g2 := by
  obtain ⟨v, g1, e1, v2, g2, e2, rfl, -, iv⟩ := p
  exact ⟨v, g1, g2, e1, e2, iv⟩
theorem l_260 (hL : (X.1 : Int) ≤ 3072) (hx : ∀ j, -2147483648 ≤ X.2 j ∧ X.2 j < 2147483648) (l0 : 0 ≤ i) (l1 : i + 6 ≤ (X.1 : Int)) (iv : IV N g) (hN : N + 300 < 800000) : Lg X d i N (EI X (d + 41) 338 260 (LL i) [] S0 (ov g)) := by
  show Lg X d i N (EI X (d + 41) 338 260 [some (.inr (.inr (-2))), some (.inr (.inr 1)), some (.inr (.inr 143)), some (.inl i)] [] S0 (ov g))
  obtain ⟨v, g1, g2, e1, e2, iv2⟩ := Pr_out (p_status (X := X) (d := d) (g := g) (N := N) iv)
  rw [f_338_260]
  rw [K_top, oC_of e1]
  rw [K_mod, oC_of e2, if_pos rfl]
  exact Lg_end l0 (by omega) iv2 (by omega)
theorem l_273 (hL : (X.1 : Int) ≤ 3072) (hx : ∀ j, -2147483648 ≤ X.2 j ∧ X.2 j < 2147483648) (l0 : 0 ≤ i) (l1 : i + 6 ≤ (X.1 : Int)) (iv : IV N g) (hN : N + 300 < 800000) : Lg X d i N (EI X (d + 41) 338 273 (LL i) [] S0 (ov g)) := by
  show Lg X d i N (EI X (d + 41) 338 273 [some (.inr (.inr (-2))), some (.inr (.inr 1)), some (.inr (.inr 143)), some (.inl i)] [] S0 (ov g))
  obtain ⟨v, g1, g2, e1, e2, iv2⟩ := Pr_out (p_top (X := X) (d := d) (g := g) (N := N) iv)
  rw [f_338_273]
  rw [K_top, oC_of e1]
  rw [K_mod, oC_of e2, if_pos (lcmp_self v)]
  exact Lg_end l0 (by omega) iv2 (by omega)
theorem l_287 (hL : (X.1 : Int) ≤ 3072) (hx : ∀ j, -2147483648 ≤ X.2 j ∧ X.2 j < 2147483648) (l0 : 0 ≤ i) (l1 : i + 6 ≤ (X.1 : Int)) (iv : IV N g) (hN : N + 300 < 800000) : Lg X d i N (EI X (d + 41) 338 287 (LL i) [] S0 (ov g)) := by
  show Lg X d i N (EI X (d + 41) 338 287 [some (.inr (.inr (-2))), some (.inr (.inr 1)), some (.inr (.inr 143)), some (.inl i)] [] S0 (ov g))
  obtain ⟨v, g1, g2, e1, e2, iv2⟩ := Pr_out (p_bottom (X := X) (d := d) (g := g) (N := N) iv)
  rw [f_338_287]
  rw [K_top, oC_of e1]
  rw [K_mod, oC_of e2, if_pos (lcmp_self v)]
  exact Lg_end l0 (by omega) iv2 (by omega)
theorem l_301 (hL : (X.1 : Int) ≤ 3072) (hx : ∀ j, -2147483648 ≤ X.2 j ∧ X.2 j < 2147483648) (l0 : 0 ≤ i) (l1 : i + 6 ≤ (X.1 : Int)) (iv : IV N g) (hN : N + 300 < 800000) : Lg X d i N (EI X (d + 41) 338 301 (LL i) [] S0 (ov g)) := by
  show Lg X d i N (EI X (d + 41) 338 301 [some (.inr (.inr (-2))), some (.inr (.inr 1)), some (.inr (.inr 143)), some (.inl i)] [] S0 (ov g))
  obtain ⟨v, g1, g2, e1, e2, iv2⟩ := Pr_out (q_tray (X := X) (d := d) (g := g) (N := N) iv (X.2 (i + 1).toNat) (X.2 (i + 2).toNat) (X.2 (i + 3).toNat))
  rw [f_338_301]
  simp only [w32_id (x := i + 1) (by omega) (by omega), w32_id (x := i + 2) (by omega) (by omega), w32_id (x := i + 3) (by omega) (by omega), al_sc X _ _ (i := i + 1) (by omega) (by omega), al_sc X _ _ (i := i + 2) (by omega) (by omega), al_sc X _ _ (i := i + 3) (by omega) (by omega)]
  rw [K_top, oC_of e1]
  rw [K_mod, oC_of e2, if_pos rfl]
  exact Lg_end l0 (by omega) iv2 (by omega)
theorem l_344 (hL : (X.1 : Int) ≤ 3072) (hx : ∀ j, -2147483648 ≤ X.2 j ∧ X.2 j < 2147483648) (l0 : 0 ≤ i) (l1 : i + 6 ≤ (X.1 : Int)) (iv : IV N g) (hN : N + 300 < 800000) : Lg X d i N (EI X (d + 41) 338 344 (LL i) [] S0 (ov g)) := by
  show Lg X d i N (EI X (d + 41) 338 344 [some (.inr (.inr (-2))), some (.inr (.inr 1)), some (.inr (.inr 143)), some (.inl i)] [] S0 (ov g))
  obtain ⟨v, g1, g2, e1, e2, iv2⟩ := Pr_out (q_write (X := X) (d := d) (g := g) (N := N) iv (X.2 (i + 1).toNat) (X.2 (i + 2).toNat) (am_lor (am_lshl (X.2 (i + 3).toNat) 32) (am_land (X.2 (i + 4).toNat) 4294967295)))
  rw [f_338_344]
  simp only [w32_id (x := i + 1) (by omega) (by omega), w32_id (x := i + 2) (by omega) (by omega), w32_id (x := i + 3) (by omega) (by omega), w32_id (x := i + 4) (by omega) (by omega), al_sc X _ _ (i := i + 1) (by omega) (by omega), al_sc X _ _ (i := i + 2) (by omega) (by omega), al_sc X _ _ (i := i + 3) (by omega) (by omega), al_sc X _ _ (i := i + 4) (by omega) (by omega)]
  rw [K_top, oC_of e1]
  rw [K_mod, oC_of e2, if_pos rfl]
  exact Lg_end l0 (by omega) iv2 (by omega)
theorem l_417 (hL : (X.1 : Int) ≤ 3072) (hx : ∀ j, -2147483648 ≤ X.2 j ∧ X.2 j < 2147483648) (l0 : 0 ≤ i) (l1 : i + 6 ≤ (X.1 : Int)) (iv : IV N g) (hN : N + 300 < 800000) : Lg X d i N (EI X (d + 41) 338 417 (LL i) [] S0 (ov g)) := by
  show Lg X d i N (EI X (d + 41) 338 417 [some (.inr (.inr (-2))), some (.inr (.inr 1)), some (.inr (.inr 143)), some (.inl i)] [] S0 (ov g))
  obtain ⟨v, g1, g2, e1, e2, iv2⟩ := Pr_out (q_read (X := X) (d := d) (g := g) (N := N) iv (X.2 (i + 1).toNat) (X.2 (i + 2).toNat))
  rw [f_338_417]
  simp only [w32_id (x := i + 1) (by omega) (by omega), w32_id (x := i + 2) (by omega) (by omega), al_sc X _ _ (i := i + 1) (by omega) (by omega), al_sc X _ _ (i := i + 2) (by omega) (by omega)]
  rw [K_top, oC_of e1]
  rw [K_mod, oC_of e2, if_pos (lcmp_self v)]
  exact Lg_end l0 (by omega) iv2 (by omega)
theorem l_451 (hL : (X.1 : Int) ≤ 3072) (hx : ∀ j, -2147483648 ≤ X.2 j ∧ X.2 j < 2147483648) (l0 : 0 ≤ i) (l1 : i + 6 ≤ (X.1 : Int)) (iv : IV N g) (hN : N + 300 < 800000) : Lg X d i N (EI X (d + 41) 338 451 (LL i) [] S0 (ov g)) := by
  show Lg X d i N (EI X (d + 41) 338 451 [some (.inr (.inr (-2))), some (.inr (.inr 1)), some (.inr (.inr 143)), some (.inl i)] [] S0 (ov g))
  have := hx (i + 1).toNat
  have := hx (i + 2).toNat
  have := hx (i + 3).toNat
  have := hx (i + 4).toNat
  have := hx (i + 5).toNat
  obtain ⟨v, g1, g2, e1, e2, iv2⟩ := Pr_out (q_pour (X := X) (d := d) (g := g) (N := N) iv (X.2 (i + 1).toNat) (X.2 (i + 2).toNat) (X.2 (i + 3).toNat) (X.2 (i + 4).toNat) (X.2 (i + 5).toNat) (by omega) (by omega))
  rw [f_338_451]
  simp only [w32_id (x := i + 1) (by omega) (by omega), w32_id (x := i + 2) (by omega) (by omega), w32_id (x := i + 3) (by omega) (by omega), w32_id (x := i + 4) (by omega) (by omega), w32_id (x := i + 5) (by omega) (by omega), al_sc X _ _ (i := i + 1) (by omega) (by omega), al_sc X _ _ (i := i + 2) (by omega) (by omega), al_sc X _ _ (i := i + 3) (by omega) (by omega), al_sc X _ _ (i := i + 4) (by omega) (by omega), al_sc X _ _ (i := i + 5) (by omega) (by omega)]
  rw [K_top, oC_of e1]
  rw [K_mod, oC_of e2, if_pos rfl]
  exact Lg_end l0 (by omega) iv2 (by omega)
theorem l_514 (hL : (X.1 : Int) ≤ 3072) (hx : ∀ j, -2147483648 ≤ X.2 j ∧ X.2 j < 2147483648) (l0 : 0 ≤ i) (l1 : i + 6 ≤ (X.1 : Int)) (iv : IV N g) (hN : N + 300 < 800000) : Lg X d i N (EI X (d + 41) 338 514 (LL i) [] S0 (ov g)) := by
  show Lg X d i N (EI X (d + 41) 338 514 [some (.inr (.inr (-2))), some (.inr (.inr 1)), some (.inr (.inr 143)), some (.inl i)] [] S0 (ov g))
  obtain ⟨v, g1, g2, e1, e2, iv2⟩ := Pr_out (p_feed (X := X) (d := d) (g := g) (N := N) iv (X.2 (i + 1).toNat) (X.2 (i + 2).toNat) (X.2 (i + 3).toNat) (X.2 (i + 4).toNat) (X.2 (i + 5).toNat))
  rw [f_338_514]
  simp only [w32_id (x := i + 1) (by omega) (by omega), w32_id (x := i + 2) (by omega) (by omega), w32_id (x := i + 3) (by omega) (by omega), w32_id (x := i + 4) (by omega) (by omega), w32_id (x := i + 5) (by omega) (by omega), al_sc X _ _ (i := i + 1) (by omega) (by omega), al_sc X _ _ (i := i + 2) (by omega) (by omega), al_sc X _ _ (i := i + 3) (by omega) (by omega), al_sc X _ _ (i := i + 4) (by omega) (by omega), al_sc X _ _ (i := i + 5) (by omega) (by omega)]
  rw [K_top, oC_of e1]
  rw [K_mod, oC_of e2, if_pos rfl]
  exact Lg_end l0 (by omega) iv2 (by omega)
theorem l_577 (hL : (X.1 : Int) ≤ 3072) (hx : ∀ j, -2147483648 ≤ X.2 j ∧ X.2 j < 2147483648) (l0 : 0 ≤ i) (l1 : i + 6 ≤ (X.1 : Int)) (iv : IV N g) (hN : N + 300 < 800000) : Lg X d i N (EI X (d + 41) 338 577 (LL i) [] S0 (ov g)) := by
  show Lg X d i N (EI X (d + 41) 338 577 [some (.inr (.inr (-2))), some (.inr (.inr 1)), some (.inr (.inr 143)), some (.inl i)] [] S0 (ov g))
  obtain ⟨v, g1, g2, e1, e2, iv2⟩ := Pr_out (p_dawn (X := X) (d := d) (g := g) (N := N) iv (X.2 (i + 1).toNat))
  rw [f_338_577]
  simp only [w32_id (x := i + 1) (by omega) (by omega), al_sc X _ _ (i := i + 1) (by omega) (by omega)]
  rw [K_top, oC_of e1]
  rw [K_mod, oC_of e2, if_pos rfl]
  exact Lg_end l0 (by omega) iv2 (by omega)
theorem l_600 (hL : (X.1 : Int) ≤ 3072) (hx : ∀ j, -2147483648 ≤ X.2 j ∧ X.2 j < 2147483648) (l0 : 0 ≤ i) (l1 : i + 6 ≤ (X.1 : Int)) (iv : IV N g) (hN : N + 300 < 800000) : Lg X d i N (EI X (d + 41) 338 600 (LL i) [] S0 (ov g)) := by
  show Lg X d i N (EI X (d + 41) 338 600 [some (.inr (.inr (-2))), some (.inr (.inr 1)), some (.inr (.inr 143)), some (.inl i)] [] S0 (ov g))
  obtain ⟨v, g1, g2, e1, e2, iv2⟩ := Pr_out (p_years (X := X) (d := d) (g := g) (N := N) iv (X.2 (i + 1).toNat))
  rw [f_338_600]
  simp only [w32_id (x := i + 1) (by omega) (by omega), al_sc X _ _ (i := i + 1) (by omega) (by omega)]
  rw [K_top, oC_of e1]
  rw [K_mod, oC_of e2, if_pos rfl]
  exact Lg_end l0 (by omega) iv2 (by omega)
theorem l_623 (hL : (X.1 : Int) ≤ 3072) (hx : ∀ j, -2147483648 ≤ X.2 j ∧ X.2 j < 2147483648) (l0 : 0 ≤ i) (l1 : i + 6 ≤ (X.1 : Int)) (iv : IV N g) (hN : N + 300 < 800000) : Lg X d i N (EI X (d + 41) 338 623 (LL i) [] S0 (ov g)) := by
  show Lg X d i N (EI X (d + 41) 338 623 [some (.inr (.inr (-2))), some (.inr (.inr 1)), some (.inr (.inr 143)), some (.inl i)] [] S0 (ov g))
  obtain ⟨v, g1, g2, e1, e2, iv2⟩ := Pr_out (p_fault (X := X) (d := d) (g := g) (N := N) iv (X.2 (i + 1).toNat))
  rw [f_338_623]
  simp only [w32_id (x := i + 1) (by omega) (by omega), al_sc X _ _ (i := i + 1) (by omega) (by omega)]
  rw [K_top, oC_of e1]
  rw [K_mod, oC_of e2, if_pos rfl]
  exact Lg_end l0 (by omega) iv2 (by omega)
theorem l_646 (hL : (X.1 : Int) ≤ 3072) (hx : ∀ j, -2147483648 ≤ X.2 j ∧ X.2 j < 2147483648) (l0 : 0 ≤ i) (l1 : i + 6 ≤ (X.1 : Int)) (iv : IV N g) (hN : N + 300 < 800000) : Lg X d i N (EI X (d + 41) 338 646 (LL i) [] S0 (ov g)) := by
  show Lg X d i N (EI X (d + 41) 338 646 [some (.inr (.inr (-2))), some (.inr (.inr 1)), some (.inr (.inr 143)), some (.inl i)] [] S0 (ov g))
  obtain ⟨v, g1, g2, e1, e2, iv2⟩ := Pr_out (p_told (X := X) (d := d) (g := g) (N := N) iv (by omega) (X.2 (i + 1).toNat))
  rw [f_338_646]
  simp only [w32_id (x := i + 1) (by omega) (by omega), al_sc X _ _ (i := i + 1) (by omega) (by omega)]
  rw [K_top, oC_of e1]
  rw [K_mod, oC_of e2, if_pos rfl]
  exact Lg_end l0 (by omega) iv2 (by omega)
theorem l_669 (hL : (X.1 : Int) ≤ 3072) (hx : ∀ j, -2147483648 ≤ X.2 j ∧ X.2 j < 2147483648) (l0 : 0 ≤ i) (l1 : i + 6 ≤ (X.1 : Int)) (iv : IV N g) (hN : N + 300 < 800000) : Lg X d i N (EI X (d + 41) 338 669 (LL i) [] S0 (ov g)) := by
  show Lg X d i N (EI X (d + 41) 338 669 [some (.inr (.inr (-2))), some (.inr (.inr 1)), some (.inr (.inr 143)), some (.inl i)] [] S0 (ov g))
  obtain ⟨v, g1, g2, e1, e2, iv2⟩ := Pr_out (p_thing (X := X) (d := d) (g := g) (N := N) iv (by omega) (X.2 (i + 1).toNat) (X.2 (i + 2).toNat))
  rw [f_338_669]
  simp only [w32_id (x := i + 1) (by omega) (by omega), w32_id (x := i + 2) (by omega) (by omega), al_sc X _ _ (i := i + 1) (by omega) (by omega), al_sc X _ _ (i := i + 2) (by omega) (by omega)]
  rw [K_top, oC_of e1]
  rw [K_mod, oC_of e2, if_pos rfl]
  exact Lg_end l0 (by omega) iv2 (by omega)
theorem l_702 (hL : (X.1 : Int) ≤ 3072) (hx : ∀ j, -2147483648 ≤ X.2 j ∧ X.2 j < 2147483648) (l0 : 0 ≤ i) (l1 : i + 6 ≤ (X.1 : Int)) (iv : IV N g) (hN : N + 300 < 800000) : Lg X d i N (EI X (d + 41) 338 702 (LL i) [] S0 (ov g)) := by
  show Lg X d i N (EI X (d + 41) 338 702 [some (.inr (.inr (-2))), some (.inr (.inr 1)), some (.inr (.inr 143)), some (.inl i)] [] S0 (ov g))
  obtain ⟨v, g1, g2, e1, e2, iv2⟩ := Pr_out (p_holder (X := X) (d := d) (g := g) (N := N) iv (by omega) (X.2 (i + 1).toNat))
  rw [f_338_702]
  simp only [w32_id (x := i + 1) (by omega) (by omega), al_sc X _ _ (i := i + 1) (by omega) (by omega)]
  rw [K_top, oC_of e1]
  rw [K_mod, oC_of e2, if_pos rfl]
  exact Lg_end l0 (by omega) iv2 (by omega)
theorem l_725 (hL : (X.1 : Int) ≤ 3072) (hx : ∀ j, -2147483648 ≤ X.2 j ∧ X.2 j < 2147483648) (l0 : 0 ≤ i) (l1 : i + 6 ≤ (X.1 : Int)) (iv : IV N g) (hN : N + 300 < 800000) : Lg X d i N (EI X (d + 41) 338 725 (LL i) [] S0 (ov g)) := by
  show Lg X d i N (EI X (d + 41) 338 725 [some (.inr (.inr (-2))), some (.inr (.inr 1)), some (.inr (.inr 143)), some (.inl i)] [] S0 (ov g))
  obtain ⟨v, g1, g2, e1, e2, iv2⟩ := Pr_out (p_man (X := X) (d := d) (g := g) (N := N) iv (by omega) (X.2 (i + 1).toNat) (X.2 (i + 2).toNat))
  rw [f_338_725]
  simp only [w32_id (x := i + 1) (by omega) (by omega), w32_id (x := i + 2) (by omega) (by omega), al_sc X _ _ (i := i + 1) (by omega) (by omega), al_sc X _ _ (i := i + 2) (by omega) (by omega)]
  rw [K_top, oC_of e1]
  rw [K_mod, oC_of e2, if_pos rfl]
  exact Lg_end l0 (by omega) iv2 (by omega)
theorem l_758 (hL : (X.1 : Int) ≤ 3072) (hx : ∀ j, -2147483648 ≤ X.2 j ∧ X.2 j < 2147483648) (l0 : 0 ≤ i) (l1 : i + 6 ≤ (X.1 : Int)) (iv : IV N g) (hN : N + 300 < 800000) : Lg X d i N (EI X (d + 41) 338 758 (LL i) [] S0 (ov g)) := by
  show Lg X d i N (EI X (d + 41) 338 758 [some (.inr (.inr (-2))), some (.inr (.inr 1)), some (.inr (.inr 143)), some (.inl i)] [] S0 (ov g))
  obtain ⟨v, g1, g2, e1, e2, iv2⟩ := Pr_out (p_holds (X := X) (d := d) (g := g) (N := N) iv (by omega) (X.2 (i + 1).toNat))
  rw [f_338_758]
  simp only [w32_id (x := i + 1) (by omega) (by omega), al_sc X _ _ (i := i + 1) (by omega) (by omega)]
  rw [K_top, oC_of e1]
  rw [K_mod, oC_of e2, if_pos rfl]
  exact Lg_end l0 (by omega) iv2 (by omega)
theorem l_781 (hL : (X.1 : Int) ≤ 3072) (hx : ∀ j, -2147483648 ≤ X.2 j ∧ X.2 j < 2147483648) (l0 : 0 ≤ i) (l1 : i + 6 ≤ (X.1 : Int)) (iv : IV N g) (hN : N + 300 < 800000) : Lg X d i N (EI X (d + 41) 338 781 (LL i) [] S0 (ov g)) := by
  show Lg X d i N (EI X (d + 41) 338 781 [some (.inr (.inr (-2))), some (.inr (.inr 1)), some (.inr (.inr 143)), some (.inl i)] [] S0 (ov g))
  obtain ⟨v, g1, g2, e1, e2, iv2⟩ := Pr_out (p_won (X := X) (d := d) (g := g) (N := N) iv (by omega) (X.2 (i + 1).toNat) (X.2 (i + 2).toNat))
  rw [f_338_781]
  simp only [w32_id (x := i + 1) (by omega) (by omega), w32_id (x := i + 2) (by omega) (by omega), al_sc X _ _ (i := i + 1) (by omega) (by omega), al_sc X _ _ (i := i + 2) (by omega) (by omega)]
  rw [K_top, oC_of e1]
  rw [K_mod, oC_of e2, if_pos rfl]
  exact Lg_end l0 (by omega) iv2 (by omega)
theorem l_814 (hL : (X.1 : Int) ≤ 3072) (hx : ∀ j, -2147483648 ≤ X.2 j ∧ X.2 j < 2147483648) (l0 : 0 ≤ i) (l1 : i + 6 ≤ (X.1 : Int)) (iv : IV N g) (hN : N + 300 < 800000) : Lg X d i N (EI X (d + 41) 338 814 (LL i) [] S0 (ov g)) := by
  show Lg X d i N (EI X (d + 41) 338 814 [some (.inr (.inr (-2))), some (.inr (.inr 1)), some (.inr (.inr 143)), some (.inl i)] [] S0 (ov g))
  obtain ⟨v, g1, g2, e1, e2, iv2⟩ := Pr_out (p_duel (X := X) (d := d) (g := g) (N := N) iv (by omega) (X.2 (i + 1).toNat))
  rw [f_338_814]
  simp only [w32_id (x := i + 1) (by omega) (by omega), al_sc X _ _ (i := i + 1) (by omega) (by omega)]
  rw [K_top, oC_of e1]
  rw [K_mod, oC_of e2, if_pos rfl]
  exact Lg_end l0 (by omega) iv2 (by omega)
theorem l_837 (hL : (X.1 : Int) ≤ 3072) (hx : ∀ j, -2147483648 ≤ X.2 j ∧ X.2 j < 2147483648) (l0 : 0 ≤ i) (l1 : i + 6 ≤ (X.1 : Int)) (iv : IV N g) (hN : N + 300 < 800000) : Lg X d i N (EI X (d + 41) 338 837 (LL i) [] S0 (ov g)) := by
  show Lg X d i N (EI X (d + 41) 338 837 [some (.inr (.inr (-2))), some (.inr (.inr 1)), some (.inr (.inr 143)), some (.inl i)] [] S0 (ov g))
  obtain ⟨v, g1, g2, e1, e2, iv2⟩ := Pr_out (p_meet (X := X) (d := d) (g := g) (N := N) iv (by omega) (X.2 (i + 1).toNat) (X.2 (i + 2).toNat))
  rw [f_338_837]
  simp only [w32_id (x := i + 1) (by omega) (by omega), w32_id (x := i + 2) (by omega) (by omega), al_sc X _ _ (i := i + 1) (by omega) (by omega), al_sc X _ _ (i := i + 2) (by omega) (by omega)]
  rw [K_top, oC_of e1]
  rw [K_mod, oC_of e2, if_pos rfl]
  exact Lg_end l0 (by omega) iv2 (by omega)
theorem l_870 (hL : (X.1 : Int) ≤ 3072) (hx : ∀ j, -2147483648 ≤ X.2 j ∧ X.2 j < 2147483648) (l0 : 0 ≤ i) (l1 : i + 6 ≤ (X.1 : Int)) (iv : IV N g) (hN : N + 300 < 800000) : Lg X d i N (EI X (d + 41) 338 870 (LL i) [] S0 (ov g)) := by
  show Lg X d i N (EI X (d + 41) 338 870 [some (.inr (.inr (-2))), some (.inr (.inr 1)), some (.inr (.inr 143)), some (.inl i)] [] S0 (ov g))
  obtain ⟨v, g1, g2, e1, e2, iv2⟩ := Pr_out (p_act (X := X) (d := d) (g := g) (N := N) iv (by omega) (X.2 (i + 1).toNat))
  rw [f_338_870]
  simp only [w32_id (x := i + 1) (by omega) (by omega), al_sc X _ _ (i := i + 1) (by omega) (by omega)]
  rw [K_top, oC_of e1]
  rw [K_mod, oC_of e2, if_pos rfl]
  exact Lg_end l0 (by omega) iv2 (by omega)
theorem l_893 (hL : (X.1 : Int) ≤ 3072) (hx : ∀ j, -2147483648 ≤ X.2 j ∧ X.2 j < 2147483648) (l0 : 0 ≤ i) (l1 : i + 6 ≤ (X.1 : Int)) (iv : IV N g) (hN : N + 300 < 800000) : Lg X d i N (EI X (d + 41) 338 893 (LL i) [] S0 (ov g)) := by
  show Lg X d i N (EI X (d + 41) 338 893 [some (.inr (.inr (-2))), some (.inr (.inr 1)), some (.inr (.inr 143)), some (.inl i)] [] S0 (ov g))
  obtain ⟨v, g1, g2, e1, e2, iv2⟩ := Pr_out (p_part (X := X) (d := d) (g := g) (N := N) iv (by omega))
  rw [f_338_893]
  rw [K_top, oC_of e1]
  rw [K_mod, oC_of e2, if_pos rfl]
  exact Lg_end l0 (by omega) iv2 (by omega)
theorem l_906 (hL : (X.1 : Int) ≤ 3072) (hx : ∀ j, -2147483648 ≤ X.2 j ∧ X.2 j < 2147483648) (l0 : 0 ≤ i) (l1 : i + 6 ≤ (X.1 : Int)) (iv : IV N g) (hN : N + 300 < 800000) : Lg X d i N (EI X (d + 41) 338 906 (LL i) [] S0 (ov g)) := by
  show Lg X d i N (EI X (d + 41) 338 906 [some (.inr (.inr (-2))), some (.inr (.inr 1)), some (.inr (.inr 143)), some (.inl i)] [] S0 (ov g))
  obtain ⟨v, g1, g2, e1, e2, iv2⟩ := Pr_out (p_give (X := X) (d := d) (g := g) (N := N) iv (by omega) (X.2 (i + 1).toNat) (X.2 (i + 2).toNat))
  rw [f_338_906]
  simp only [w32_id (x := i + 1) (by omega) (by omega), w32_id (x := i + 2) (by omega) (by omega), al_sc X _ _ (i := i + 1) (by omega) (by omega), al_sc X _ _ (i := i + 2) (by omega) (by omega)]
  rw [K_top, oC_of e1]
  rw [K_mod, oC_of e2, if_pos rfl]
  exact Lg_end l0 (by omega) iv2 (by omega)
theorem l_939 (hL : (X.1 : Int) ≤ 3072) (hx : ∀ j, -2147483648 ≤ X.2 j ∧ X.2 j < 2147483648) (l0 : 0 ≤ i) (l1 : i + 6 ≤ (X.1 : Int)) (iv : IV N g) (hN : N + 300 < 800000) : Lg X d i N (EI X (d + 41) 338 939 (LL i) [] S0 (ov g)) := by
  show Lg X d i N (EI X (d + 41) 338 939 [some (.inr (.inr (-2))), some (.inr (.inr 1)), some (.inr (.inr 143)), some (.inl i)] [] S0 (ov g))
  obtain ⟨v, g1, g2, e1, e2, iv2⟩ := Pr_out (p_mend (X := X) (d := d) (g := g) (N := N) iv (by omega) (X.2 (i + 1).toNat))
  rw [f_338_939]
  simp only [w32_id (x := i + 1) (by omega) (by omega), al_sc X _ _ (i := i + 1) (by omega) (by omega)]
  rw [K_top, oC_of e1]
  rw [K_mod, oC_of e2, if_pos rfl]
  exact Lg_end l0 (by omega) iv2 (by omega)
theorem l_962 (hL : (X.1 : Int) ≤ 3072) (hx : ∀ j, -2147483648 ≤ X.2 j ∧ X.2 j < 2147483648) (l0 : 0 ≤ i) (l1 : i + 6 ≤ (X.1 : Int)) (iv : IV N g) (hN : N + 300 < 800000) : Lg X d i N (EI X (d + 41) 338 962 (LL i) [] S0 (ov g)) := by
  show Lg X d i N (EI X (d + 41) 338 962 [some (.inr (.inr (-2))), some (.inr (.inr 1)), some (.inr (.inr 143)), some (.inl i)] [] S0 (ov g))
  obtain ⟨v, g1, g2, e1, e2, iv2⟩ := Pr_out (p_heal (X := X) (d := d) (g := g) (N := N) iv (by omega) (X.2 (i + 1).toNat) (X.2 (i + 2).toNat))
  rw [f_338_962]
  simp only [w32_id (x := i + 1) (by omega) (by omega), w32_id (x := i + 2) (by omega) (by omega), al_sc X _ _ (i := i + 1) (by omega) (by omega), al_sc X _ _ (i := i + 2) (by omega) (by omega)]
  rw [K_top, oC_of e1]
  rw [K_mod, oC_of e2, if_pos rfl]
  exact Lg_end l0 (by omega) iv2 (by omega)
theorem l_995 (hL : (X.1 : Int) ≤ 3072) (hx : ∀ j, -2147483648 ≤ X.2 j ∧ X.2 j < 2147483648) (l0 : 0 ≤ i) (l1 : i + 6 ≤ (X.1 : Int)) (iv : IV N g) (hN : N + 300 < 800000) : Lg X d i N (EI X (d + 41) 338 995 (LL i) [] S0 (ov g)) := by
  show Lg X d i N (EI X (d + 41) 338 995 [some (.inr (.inr (-2))), some (.inr (.inr 1)), some (.inr (.inr 143)), some (.inl i)] [] S0 (ov g))
  obtain ⟨v, g1, g2, e1, e2, iv2⟩ := Pr_out (p_train (X := X) (d := d) (g := g) (N := N) iv (by omega) (X.2 (i + 1).toNat) (X.2 (i + 2).toNat))
  rw [f_338_995]
  simp only [w32_id (x := i + 1) (by omega) (by omega), w32_id (x := i + 2) (by omega) (by omega), al_sc X _ _ (i := i + 1) (by omega) (by omega), al_sc X _ _ (i := i + 2) (by omega) (by omega)]
  rw [K_top, oC_of e1]
  rw [K_mod, oC_of e2, if_pos rfl]
  exact Lg_end l0 (by omega) iv2 (by omega)
theorem l_1028 (hL : (X.1 : Int) ≤ 3072) (hx : ∀ j, -2147483648 ≤ X.2 j ∧ X.2 j < 2147483648) (l0 : 0 ≤ i) (l1 : i + 6 ≤ (X.1 : Int)) (iv : IV N g) (hN : N + 300 < 800000) : Lg X d i N (EI X (d + 41) 338 1028 (LL i) [] S0 (ov g)) := by
  show Lg X d i N (EI X (d + 41) 338 1028 [some (.inr (.inr (-2))), some (.inr (.inr 1)), some (.inr (.inr 143)), some (.inl i)] [] S0 (ov g))
  obtain ⟨v, g1, g2, e1, e2, iv2⟩ := Pr_out (p_forge (X := X) (d := d) (g := g) (N := N) iv (X.2 (i + 1).toNat) (X.2 (i + 2).toNat) (X.2 (i + 3).toNat))
  rw [f_338_1028]
  simp only [w32_id (x := i + 1) (by omega) (by omega), w32_id (x := i + 2) (by omega) (by omega), w32_id (x := i + 3) (by omega) (by omega), al_sc X _ _ (i := i + 1) (by omega) (by omega), al_sc X _ _ (i := i + 2) (by omega) (by omega), al_sc X _ _ (i := i + 3) (by omega) (by omega)]
  rw [K_top, oC_of e1]
  rw [K_mod, oC_of e2, if_pos rfl]
  exact Lg_end l0 (by omega) iv2 (by omega)
theorem l_1071 (hL : (X.1 : Int) ≤ 3072) (hx : ∀ j, -2147483648 ≤ X.2 j ∧ X.2 j < 2147483648) (l0 : 0 ≤ i) (l1 : i + 6 ≤ (X.1 : Int)) (iv : IV N g) (hN : N + 300 < 800000) : Lg X d i N (EI X (d + 41) 338 1071 (LL i) [] S0 (ov g)) := by
  show Lg X d i N (EI X (d + 41) 338 1071 [some (.inr (.inr (-2))), some (.inr (.inr 1)), some (.inr (.inr 143)), some (.inl i)] [] S0 (ov g))
  have := hx (i + 1).toNat
  have := hx (i + 2).toNat
  obtain ⟨v, g1, g2, e1, e2, iv2⟩ := Pr_out (p_rule (X := X) (d := d) (g := g) (N := N) iv (X.2 (i + 1).toNat) (X.2 (i + 2).toNat) (by omega) (by omega))
  rw [f_338_1071]
  simp only [w32_id (x := i + 1) (by omega) (by omega), w32_id (x := i + 2) (by omega) (by omega), al_sc X _ _ (i := i + 1) (by omega) (by omega), al_sc X _ _ (i := i + 2) (by omega) (by omega)]
  rw [K_top, oC_of e1]
  rw [K_mod, oC_of e2, if_pos rfl]
  exact Lg_end l0 (by omega) iv2 (by omega)
theorem l_1104 (hL : (X.1 : Int) ≤ 3072) (hx : ∀ j, -2147483648 ≤ X.2 j ∧ X.2 j < 2147483648) (l0 : 0 ≤ i) (l1 : i + 6 ≤ (X.1 : Int)) (iv : IV N g) (hN : N + 300 < 800000) : Lg X d i N (EI X (d + 41) 338 1104 (LL i) [] S0 (ov g)) := by
  show Lg X d i N (EI X (d + 41) 338 1104 [some (.inr (.inr (-2))), some (.inr (.inr 1)), some (.inr (.inr 143)), some (.inl i)] [] S0 (ov g))
  obtain ⟨v, g1, g2, e1, e2, iv2⟩ := Pr_out (p_acts (X := X) (d := d) (g := g) (N := N) iv (by omega))
  rw [f_338_1104]
  rw [K_top, oC_of e1]
  rw [K_mod, oC_of e2, if_pos rfl]
  exact Lg_end l0 (by omega) iv2 (by omega)
theorem l_1117 (hL : (X.1 : Int) ≤ 3072) (hx : ∀ j, -2147483648 ≤ X.2 j ∧ X.2 j < 2147483648) (l0 : 0 ≤ i) (l1 : i + 6 ≤ (X.1 : Int)) (iv : IV N g) (hN : N + 300 < 800000) : Lg X d i N (EI X (d + 41) 338 1117 (LL i) [] S0 (ov g)) := by
  show Lg X d i N (EI X (d + 41) 338 1117 [some (.inr (.inr (-2))), some (.inr (.inr 1)), some (.inr (.inr 143)), some (.inl i)] [] S0 (ov g))
  obtain ⟨v, g1, g2, e1, e2, iv2⟩ := Pr_out (p_wound (X := X) (d := d) (g := g) (N := N) iv (by omega))
  rw [f_338_1117]
  rw [K_top, oC_of e1]
  rw [K_mod, oC_of e2, if_pos rfl]
  exact Lg_end l0 (by omega) iv2 (by omega)
theorem l_1130 (hL : (X.1 : Int) ≤ 3072) (hx : ∀ j, -2147483648 ≤ X.2 j ∧ X.2 j < 2147483648) (l0 : 0 ≤ i) (l1 : i + 6 ≤ (X.1 : Int)) (iv : IV N g) (hN : N + 300 < 800000) : Lg X d i N (EI X (d + 41) 338 1130 (LL i) [] S0 (ov g)) := by
  show Lg X d i N (EI X (d + 41) 338 1130 [some (.inr (.inr (-2))), some (.inr (.inr 1)), some (.inr (.inr 143)), some (.inl i)] [] S0 (ov g))
  obtain ⟨v, g1, g2, e1, e2, iv2⟩ := Pr_out (p_value (X := X) (d := d) (g := g) (N := N) iv (by omega) (X.2 (i + 1).toNat))
  rw [f_338_1130]
  simp only [w32_id (x := i + 1) (by omega) (by omega), al_sc X _ _ (i := i + 1) (by omega) (by omega)]
  rw [K_top, oC_of e1]
  rw [K_mod, oC_of e2, if_pos rfl]
  exact Lg_end l0 (by omega) iv2 (by omega)
theorem l_1153 (hL : (X.1 : Int) ≤ 3072) (hx : ∀ j, -2147483648 ≤ X.2 j ∧ X.2 j < 2147483648) (l0 : 0 ≤ i) (l1 : i + 6 ≤ (X.1 : Int)) (iv : IV N g) (hN : N + 300 < 800000) : Lg X d i N (EI X (d + 41) 338 1153 (LL i) [] S0 (ov g)) := by
  show Lg X d i N (EI X (d + 41) 338 1153 [some (.inr (.inr (-2))), some (.inr (.inr 1)), some (.inr (.inr 143)), some (.inl i)] [] S0 (ov g))
  obtain ⟨v, g1, g2, e1, e2, iv2⟩ := Pr_out (p_move (X := X) (d := d) (g := g) (N := N) iv (by omega) (X.2 (i + 1).toNat))
  rw [f_338_1153]
  simp only [w32_id (x := i + 1) (by omega) (by omega), al_sc X _ _ (i := i + 1) (by omega) (by omega)]
  rw [K_top, oC_of e1]
  rw [K_mod, oC_of e2, if_pos rfl]
  exact Lg_end l0 (by omega) iv2 (by omega)
theorem l_1176 (hL : (X.1 : Int) ≤ 3072) (hx : ∀ j, -2147483648 ≤ X.2 j ∧ X.2 j < 2147483648) (l0 : 0 ≤ i) (l1 : i + 6 ≤ (X.1 : Int)) (iv : IV N g) (hN : N + 300 < 800000) : Lg X d i N (EI X (d + 41) 338 1176 (LL i) [] S0 (ov g)) := by
  show Lg X d i N (EI X (d + 41) 338 1176 [some (.inr (.inr (-2))), some (.inr (.inr 1)), some (.inr (.inr 143)), some (.inl i)] [] S0 (ov g))
  obtain ⟨v, g1, g2, e1, e2, iv2⟩ := Pr_out (p_forced (X := X) (d := d) (g := g) (N := N) iv (by omega))
  rw [f_338_1176]
  rw [K_top, oC_of e1]
  rw [K_mod, oC_of e2, if_pos rfl]
  exact Lg_end l0 (by omega) iv2 (by omega)
theorem l_1189 (hL : (X.1 : Int) ≤ 3072) (hx : ∀ j, -2147483648 ≤ X.2 j ∧ X.2 j < 2147483648) (l0 : 0 ≤ i) (l1 : i + 6 ≤ (X.1 : Int)) (iv : IV N g) (hN : N + 300 < 800000) : Lg X d i N (EI X (d + 41) 338 1189 (LL i) [] S0 (ov g)) := by
  show Lg X d i N (EI X (d + 41) 338 1189 [some (.inr (.inr (-2))), some (.inr (.inr 1)), some (.inr (.inr 143)), some (.inl i)] [] S0 (ov g))
  obtain ⟨v, g1, g2, e1, e2, iv2⟩ := Pr_out (p_reached (X := X) (d := d) (g := g) (N := N) iv (by omega))
  rw [f_338_1189]
  rw [K_top, oC_of e1]
  rw [K_mod, oC_of e2, if_pos rfl]
  exact Lg_end l0 (by omega) iv2 (by omega)
theorem l_1202 (hL : (X.1 : Int) ≤ 3072) (hx : ∀ j, -2147483648 ≤ X.2 j ∧ X.2 j < 2147483648) (l0 : 0 ≤ i) (l1 : i + 6 ≤ (X.1 : Int)) (iv : IV N g) (hN : N + 300 < 800000) : Lg X d i N (EI X (d + 41) 338 1202 (LL i) [] S0 (ov g)) := by
  show Lg X d i N (EI X (d + 41) 338 1202 [some (.inr (.inr (-2))), some (.inr (.inr 1)), some (.inr (.inr 143)), some (.inl i)] [] S0 (ov g))
  obtain ⟨v, g1, g2, e1, e2, iv2⟩ := Pr_out (p_needs (X := X) (d := d) (g := g) (N := N) iv (by omega) (X.2 (i + 1).toNat) (X.2 (i + 2).toNat))
  rw [f_338_1202]
  simp only [w32_id (x := i + 1) (by omega) (by omega), w32_id (x := i + 2) (by omega) (by omega), al_sc X _ _ (i := i + 1) (by omega) (by omega), al_sc X _ _ (i := i + 2) (by omega) (by omega)]
  rw [K_top, oC_of e1]
  rw [K_mod, oC_of e2, if_pos rfl]
  exact Lg_end l0 (by omega) iv2 (by omega)
theorem l_1235 (hL : (X.1 : Int) ≤ 3072) (hx : ∀ j, -2147483648 ≤ X.2 j ∧ X.2 j < 2147483648) (l0 : 0 ≤ i) (l1 : i + 6 ≤ (X.1 : Int)) (iv : IV N g) (hN : N + 300 < 800000) : Lg X d i N (EI X (d + 41) 338 1235 (LL i) [] S0 (ov g)) := by
  show Lg X d i N (EI X (d + 41) 338 1235 [some (.inr (.inr (-2))), some (.inr (.inr 1)), some (.inr (.inr 143)), some (.inl i)] [] S0 (ov g))
  obtain ⟨v, g1, g2, e1, e2, iv2⟩ := Pr_out (p_needsW (X := X) (d := d) (g := g) (N := N) iv (by omega) (X.2 (i + 1).toNat) (X.2 (i + 2).toNat) (X.2 (i + 3).toNat))
  rw [f_338_1235]
  simp only [w32_id (x := i + 1) (by omega) (by omega), w32_id (x := i + 2) (by omega) (by omega), w32_id (x := i + 3) (by omega) (by omega), al_sc X _ _ (i := i + 1) (by omega) (by omega), al_sc X _ _ (i := i + 2) (by omega) (by omega), al_sc X _ _ (i := i + 3) (by omega) (by omega)]
  rw [K_top, oC_of e1]
  rw [K_mod, oC_of e2, if_pos rfl]
  exact Lg_end l0 (by omega) iv2 (by omega)
theorem l_1278 (hL : (X.1 : Int) ≤ 3072) (hx : ∀ j, -2147483648 ≤ X.2 j ∧ X.2 j < 2147483648) (l0 : 0 ≤ i) (l1 : i + 6 ≤ (X.1 : Int)) (iv : IV N g) (hN : N + 300 < 800000) : Lg X d i N (EI X (d + 41) 338 1278 (LL i) [] S0 (ov g)) := by
  show Lg X d i N (EI X (d + 41) 338 1278 [some (.inr (.inr (-2))), some (.inr (.inr 1)), some (.inr (.inr 143)), some (.inl i)] [] S0 (ov g))
  obtain ⟨v, g1, g2, e1, e2, iv2⟩ := Pr_out (p_gift (X := X) (d := d) (g := g) (N := N) iv (by omega) (X.2 (i + 1).toNat) (X.2 (i + 2).toNat))
  rw [f_338_1278]
  simp only [w32_id (x := i + 1) (by omega) (by omega), w32_id (x := i + 2) (by omega) (by omega), al_sc X _ _ (i := i + 1) (by omega) (by omega), al_sc X _ _ (i := i + 2) (by omega) (by omega)]
  rw [K_top, oC_of e1]
  rw [K_mod, oC_of e2, if_pos rfl]
  exact Lg_end l0 (by omega) iv2 (by omega)
theorem l_1311 (hL : (X.1 : Int) ≤ 3072) (hx : ∀ j, -2147483648 ≤ X.2 j ∧ X.2 j < 2147483648) (l0 : 0 ≤ i) (l1 : i + 6 ≤ (X.1 : Int)) (iv : IV N g) (hN : N + 300 < 800000) : Lg X d i N (EI X (d + 41) 338 1311 (LL i) [] S0 (ov g)) := by
  show Lg X d i N (EI X (d + 41) 338 1311 [some (.inr (.inr (-2))), some (.inr (.inr 1)), some (.inr (.inr 143)), some (.inl i)] [] S0 (ov g))
  obtain ⟨v, g1, g2, e1, e2, iv2⟩ := Pr_out (p_fair (X := X) (d := d) (g := g) (N := N) iv (by omega) (X.2 (i + 1).toNat) (X.2 (i + 2).toNat) (X.2 (i + 3).toNat))
  rw [f_338_1311]
  simp only [w32_id (x := i + 1) (by omega) (by omega), w32_id (x := i + 2) (by omega) (by omega), w32_id (x := i + 3) (by omega) (by omega), al_sc X _ _ (i := i + 1) (by omega) (by omega), al_sc X _ _ (i := i + 2) (by omega) (by omega), al_sc X _ _ (i := i + 3) (by omega) (by omega)]
  rw [K_top, oC_of e1]
  rw [K_mod, oC_of e2, if_pos rfl]
  exact Lg_end l0 (by omega) iv2 (by omega)
theorem l_1354 (hL : (X.1 : Int) ≤ 3072) (hx : ∀ j, -2147483648 ≤ X.2 j ∧ X.2 j < 2147483648) (l0 : 0 ≤ i) (l1 : i + 6 ≤ (X.1 : Int)) (iv : IV N g) (hN : N + 300 < 800000) : Lg X d i N (EI X (d + 41) 338 1354 (LL i) [] S0 (ov g)) := by
  show Lg X d i N (EI X (d + 41) 338 1354 [some (.inr (.inr (-2))), some (.inr (.inr 1)), some (.inr (.inr 143)), some (.inl i)] [] S0 (ov g))
  have := hx (i + 1).toNat
  have := hx (i + 2).toNat
  obtain ⟨v, g1, g2, e1, e2, iv2⟩ := Pr_out (p_arms (X := X) (d := d) (g := g) (N := N) iv (X.2 (i + 1).toNat) (X.2 (i + 2).toNat) (by omega))
  rw [f_338_1354]
  simp only [w32_id (x := i + 1) (by omega) (by omega), w32_id (x := i + 2) (by omega) (by omega), al_sc X _ _ (i := i + 1) (by omega) (by omega), al_sc X _ _ (i := i + 2) (by omega) (by omega)]
  rw [K_top, oC_of e1]
  rw [K_mod, oC_of e2, if_pos rfl]
  exact Lg_end l0 (by omega) iv2 (by omega)
theorem l_1387 (hL : (X.1 : Int) ≤ 3072) (hx : ∀ j, -2147483648 ≤ X.2 j ∧ X.2 j < 2147483648) (l0 : 0 ≤ i) (l1 : i + 6 ≤ (X.1 : Int)) (iv : IV N g) (hN : N + 300 < 800000) : Lg X d i N (EI X (d + 41) 338 1387 (LL i) [] S0 (ov g)) := by
  show Lg X d i N (EI X (d + 41) 338 1387 [some (.inr (.inr (-2))), some (.inr (.inr 1)), some (.inr (.inr 143)), some (.inl i)] [] S0 (ov g))
  have := hx (i + 1).toNat
  have := hx (i + 2).toNat
  have := hx (i + 3).toNat
  obtain ⟨v, g1, g2, e1, e2, iv2⟩ := Pr_out (p_armOf (X := X) (d := d) (g := g) (N := N) iv (X.2 (i + 1).toNat) (X.2 (i + 2).toNat) (X.2 (i + 3).toNat) (by omega))
  rw [f_338_1387]
  simp only [w32_id (x := i + 1) (by omega) (by omega), w32_id (x := i + 2) (by omega) (by omega), w32_id (x := i + 3) (by omega) (by omega), al_sc X _ _ (i := i + 1) (by omega) (by omega), al_sc X _ _ (i := i + 2) (by omega) (by omega), al_sc X _ _ (i := i + 3) (by omega) (by omega)]
  rw [K_top, oC_of e1]
  rw [K_mod, oC_of e2, if_pos rfl]
  exact Lg_end l0 (by omega) iv2 (by omega)
theorem l_1430 (hL : (X.1 : Int) ≤ 3072) (hx : ∀ j, -2147483648 ≤ X.2 j ∧ X.2 j < 2147483648) (l0 : 0 ≤ i) (l1 : i + 6 ≤ (X.1 : Int)) (iv : IV N g) (hN : N + 300 < 800000) : Lg X d i N (EI X (d + 41) 338 1430 (LL i) [] S0 (ov g)) := by
  show Lg X d i N (EI X (d + 41) 338 1430 [some (.inr (.inr (-2))), some (.inr (.inr 1)), some (.inr (.inr 143)), some (.inl i)] [] S0 (ov g))
  have := hx (i + 1).toNat
  have := hx (i + 2).toNat
  have := hx (i + 3).toNat
  obtain ⟨v, g1, g2, e1, e2, iv2⟩ := Pr_out (p_faster (X := X) (d := d) (g := g) (N := N) iv (X.2 (i + 1).toNat) (X.2 (i + 2).toNat) (X.2 (i + 3).toNat) (by omega))
  rw [f_338_1430]
  simp only [w32_id (x := i + 1) (by omega) (by omega), w32_id (x := i + 2) (by omega) (by omega), w32_id (x := i + 3) (by omega) (by omega), al_sc X _ _ (i := i + 1) (by omega) (by omega), al_sc X _ _ (i := i + 2) (by omega) (by omega), al_sc X _ _ (i := i + 3) (by omega) (by omega)]
  rw [K_top, oC_of e1]
  rw [K_mod, oC_of e2, if_pos rfl]
  exact Lg_end l0 (by omega) iv2 (by omega)
theorem l_1473 (hL : (X.1 : Int) ≤ 3072) (hx : ∀ j, -2147483648 ≤ X.2 j ∧ X.2 j < 2147483648) (l0 : 0 ≤ i) (l1 : i + 6 ≤ (X.1 : Int)) (iv : IV N g) (hN : N + 300 < 800000) : Lg X d i N (EI X (d + 41) 338 1473 (LL i) [] S0 (ov g)) := by
  show Lg X d i N (EI X (d + 41) 338 1473 [some (.inr (.inr (-2))), some (.inr (.inr 1)), some (.inr (.inr 143)), some (.inl i)] [] S0 (ov g))
  obtain ⟨v, g1, g2, e1, e2, iv2⟩ := Pr_out (p_enough (X := X) (d := d) (g := g) (N := N) iv (X.2 (i + 1).toNat) (X.2 (i + 2).toNat) (X.2 (i + 3).toNat))
  rw [f_338_1473]
  simp only [w32_id (x := i + 1) (by omega) (by omega), w32_id (x := i + 2) (by omega) (by omega), w32_id (x := i + 3) (by omega) (by omega), al_sc X _ _ (i := i + 1) (by omega) (by omega), al_sc X _ _ (i := i + 2) (by omega) (by omega), al_sc X _ _ (i := i + 3) (by omega) (by omega)]
  rw [K_top, oC_of e1]
  rw [K_mod, oC_of e2, if_pos rfl]
  exact Lg_end l0 (by omega) iv2 (by omega)
theorem l_1516 (hL : (X.1 : Int) ≤ 3072) (hx : ∀ j, -2147483648 ≤ X.2 j ∧ X.2 j < 2147483648) (l0 : 0 ≤ i) (l1 : i + 6 ≤ (X.1 : Int)) (iv : IV N g) (hN : N + 300 < 800000) : Lg X d i N (EI X (d + 41) 338 1516 (LL i) [] S0 (ov g)) := by
  show Lg X d i N (EI X (d + 41) 338 1516 [some (.inr (.inr (-2))), some (.inr (.inr 1)), some (.inr (.inr 143)), some (.inl i)] [] S0 (ov g))
  obtain ⟨v, g1, g2, e1, e2, iv2⟩ := Pr_out (p_champ (X := X) (d := d) (g := g) (N := N) iv (by omega) (X.2 (i + 1).toNat))
  rw [f_338_1516]
  simp only [w32_id (x := i + 1) (by omega) (by omega), al_sc X _ _ (i := i + 1) (by omega) (by omega)]
  rw [K_top, oC_of e1]
  rw [K_mod, oC_of e2, if_pos rfl]
  exact Lg_end l0 (by omega) iv2 (by omega)
theorem l_1539 (hL : (X.1 : Int) ≤ 3072) (hx : ∀ j, -2147483648 ≤ X.2 j ∧ X.2 j < 2147483648) (l0 : 0 ≤ i) (l1 : i + 6 ≤ (X.1 : Int)) (iv : IV N g) (hN : N + 300 < 800000) : Lg X d i N (EI X (d + 41) 338 1539 (LL i) [] S0 (ov g)) := by
  show Lg X d i N (EI X (d + 41) 338 1539 [some (.inr (.inr (-2))), some (.inr (.inr 1)), some (.inr (.inr 143)), some (.inl i)] [] S0 (ov g))
  obtain ⟨v, g1, g2, e1, e2, iv2⟩ := Pr_out (p_heldBack (X := X) (d := d) (g := g) (N := N) iv (by omega) (X.2 (i + 1).toNat) (X.2 (i + 2).toNat) (X.2 (i + 3).toNat) (X.2 (i + 4).toNat) (X.2 (i + 5).toNat))
  rw [f_338_1539]
  simp only [w32_id (x := i + 1) (by omega) (by omega), w32_id (x := i + 2) (by omega) (by omega), w32_id (x := i + 3) (by omega) (by omega), w32_id (x := i + 4) (by omega) (by omega), w32_id (x := i + 5) (by omega) (by omega), al_sc X _ _ (i := i + 1) (by omega) (by omega), al_sc X _ _ (i := i + 2) (by omega) (by omega), al_sc X _ _ (i := i + 3) (by omega) (by omega), al_sc X _ _ (i := i + 4) (by omega) (by omega), al_sc X _ _ (i := i + 5) (by omega) (by omega)]
  rw [K_top, oC_of e1]
  rw [K_mod, oC_of e2, if_pos rfl]
  exact Lg_end l0 (by omega) iv2 (by omega)
theorem l_1602 (hL : (X.1 : Int) ≤ 3072) (hx : ∀ j, -2147483648 ≤ X.2 j ∧ X.2 j < 2147483648) (l0 : 0 ≤ i) (l1 : i + 6 ≤ (X.1 : Int)) (iv : IV N g) (hN : N + 300 < 800000) : Lg X d i N (EI X (d + 41) 338 1602 (LL i) [] S0 (ov g)) := by
  show Lg X d i N (EI X (d + 41) 338 1602 [some (.inr (.inr (-2))), some (.inr (.inr 1)), some (.inr (.inr 143)), some (.inl i)] [] S0 (ov g))
  obtain ⟨v, g1, g2, e1, e2, iv2⟩ := Pr_out (p_fallen (X := X) (d := d) (g := g) (N := N) iv (by omega) (X.2 (i + 1).toNat) (X.2 (i + 2).toNat) (X.2 (i + 3).toNat) (X.2 (i + 4).toNat))
  rw [f_338_1602]
  simp only [w32_id (x := i + 1) (by omega) (by omega), w32_id (x := i + 2) (by omega) (by omega), w32_id (x := i + 3) (by omega) (by omega), w32_id (x := i + 4) (by omega) (by omega), al_sc X _ _ (i := i + 1) (by omega) (by omega), al_sc X _ _ (i := i + 2) (by omega) (by omega), al_sc X _ _ (i := i + 3) (by omega) (by omega), al_sc X _ _ (i := i + 4) (by omega) (by omega)]
  rw [K_top, oC_of e1]
  rw [K_mod, oC_of e2, if_pos rfl]
  exact Lg_end l0 (by omega) iv2 (by omega)
theorem l_1655 (hL : (X.1 : Int) ≤ 3072) (hx : ∀ j, -2147483648 ≤ X.2 j ∧ X.2 j < 2147483648) (l0 : 0 ≤ i) (l1 : i + 6 ≤ (X.1 : Int)) (iv : IV N g) (hN : N + 300 < 800000) : Lg X d i N (EI X (d + 41) 338 1655 (LL i) [] S0 (ov g)) := by
  show Lg X d i N (EI X (d + 41) 338 1655 [some (.inr (.inr (-2))), some (.inr (.inr 1)), some (.inr (.inr 143)), some (.inl i)] [] S0 (ov g))
  obtain ⟨v, g1, g2, e1, e2, iv2⟩ := Pr_out (p_hurts (X := X) (d := d) (g := g) (N := N) iv (by omega) (X.2 (i + 1).toNat))
  rw [f_338_1655]
  simp only [w32_id (x := i + 1) (by omega) (by omega), al_sc X _ _ (i := i + 1) (by omega) (by omega)]
  rw [K_top, oC_of e1]
  rw [K_mod, oC_of e2, if_pos rfl]
  exact Lg_end l0 (by omega) iv2 (by omega)
theorem l_1678 (hL : (X.1 : Int) ≤ 3072) (hx : ∀ j, -2147483648 ≤ X.2 j ∧ X.2 j < 2147483648) (l0 : 0 ≤ i) (l1 : i + 6 ≤ (X.1 : Int)) (iv : IV N g) (hN : N + 300 < 800000) : Lg X d i N (EI X (d + 41) 338 1678 (LL i) [] S0 (ov g)) := by
  show Lg X d i N (EI X (d + 41) 338 1678 [some (.inr (.inr (-2))), some (.inr (.inr 1)), some (.inr (.inr 143)), some (.inl i)] [] S0 (ov g))
  obtain ⟨v, g1, g2, e1, e2, iv2⟩ := Pr_out (p_least (X := X) (d := d) (g := g) (N := N) iv (by omega))
  rw [f_338_1678]
  rw [K_top, oC_of e1]
  rw [K_mod, oC_of e2, if_pos rfl]
  exact Lg_end l0 (by omega) iv2 (by omega)
theorem l_1691 (hL : (X.1 : Int) ≤ 3072) (hx : ∀ j, -2147483648 ≤ X.2 j ∧ X.2 j < 2147483648) (l0 : 0 ≤ i) (l1 : i + 6 ≤ (X.1 : Int)) (iv : IV N g) (hN : N + 300 < 800000) : Lg X d i N (EI X (d + 41) 338 1691 (LL i) [] S0 (ov g)) := by
  show Lg X d i N (EI X (d + 41) 338 1691 [some (.inr (.inr (-2))), some (.inr (.inr 1)), some (.inr (.inr 143)), some (.inl i)] [] S0 (ov g))
  obtain ⟨v, g1, g2, e1, e2, iv2⟩ := Pr_out (p_leastAt (X := X) (d := d) (g := g) (N := N) iv (by omega) (X.2 (i + 1).toNat))
  rw [f_338_1691]
  simp only [w32_id (x := i + 1) (by omega) (by omega), al_sc X _ _ (i := i + 1) (by omega) (by omega)]
  rw [K_top, oC_of e1]
  rw [K_mod, oC_of e2, if_pos rfl]
  exact Lg_end l0 (by omega) iv2 (by omega)
theorem l_1714 (hL : (X.1 : Int) ≤ 3072) (hx : ∀ j, -2147483648 ≤ X.2 j ∧ X.2 j < 2147483648) (l0 : 0 ≤ i) (l1 : i + 6 ≤ (X.1 : Int)) (iv : IV N g) (hN : N + 300 < 800000) : Lg X d i N (EI X (d + 41) 338 1714 (LL i) [] S0 (ov g)) := by
  show Lg X d i N (EI X (d + 41) 338 1714 [some (.inr (.inr (-2))), some (.inr (.inr 1)), some (.inr (.inr 143)), some (.inl i)] [] S0 (ov g))
  obtain ⟨v, g1, g2, e1, e2, iv2⟩ := Pr_out (q_copy (X := X) (d := d) (g := g) (N := N) iv (X.2 (i + 1).toNat))
  rw [f_338_1714]
  simp only [w32_id (x := i + 1) (by omega) (by omega), al_sc X _ _ (i := i + 1) (by omega) (by omega)]
  rw [K_top, oC_of e1]
  rw [K_mod, oC_of e2, if_pos rfl]
  exact Lg_end l0 (by omega) iv2 (by omega)
theorem l_1737 (hL : (X.1 : Int) ≤ 3072) (hx : ∀ j, -2147483648 ≤ X.2 j ∧ X.2 j < 2147483648) (l0 : 0 ≤ i) (l1 : i + 6 ≤ (X.1 : Int)) (iv : IV N g) (hN : N + 300 < 800000) : Lg X d i N (EI X (d + 41) 338 1737 (LL i) [] S0 (ov g)) := by
  show Lg X d i N (EI X (d + 41) 338 1737 [some (.inr (.inr (-2))), some (.inr (.inr 1)), some (.inr (.inr 143)), some (.inl i)] [] S0 (ov g))
  obtain ⟨v, g1, g2, e1, e2, iv2⟩ := Pr_out (p_live (X := X) (d := d) (g := g) (N := N) iv (by omega) (X.2 (i + 1).toNat))
  rw [f_338_1737]
  simp only [w32_id (x := i + 1) (by omega) (by omega), al_sc X _ _ (i := i + 1) (by omega) (by omega)]
  rw [K_top, oC_of e1]
  rw [K_mod, oC_of e2, if_pos rfl]
  exact Lg_end l0 (by omega) iv2 (by omega)
theorem l_1760 (hL : (X.1 : Int) ≤ 3072) (hx : ∀ j, -2147483648 ≤ X.2 j ∧ X.2 j < 2147483648) (l0 : 0 ≤ i) (l1 : i + 6 ≤ (X.1 : Int)) (iv : IV N g) (hN : N + 300 < 800000) : Lg X d i N (EI X (d + 41) 338 1760 (LL i) [] S0 (ov g)) := by
  show Lg X d i N (EI X (d + 41) 338 1760 [some (.inr (.inr (-2))), some (.inr (.inr 1)), some (.inr (.inr 143)), some (.inl i)] [] S0 (ov g))
  obtain ⟨v, g1, g2, e1, e2, iv2⟩ := Pr_out (p_lived (X := X) (d := d) (g := g) (N := N) iv (X.2 (i + 1).toNat))
  rw [f_338_1760]
  simp only [w32_id (x := i + 1) (by omega) (by omega), al_sc X _ _ (i := i + 1) (by omega) (by omega)]
  rw [K_top, oC_of e1]
  rw [K_mod, oC_of e2, if_pos rfl]
  exact Lg_end l0 (by omega) iv2 (by omega)
theorem l_1783 (hL : (X.1 : Int) ≤ 3072) (hx : ∀ j, -2147483648 ≤ X.2 j ∧ X.2 j < 2147483648) (l0 : 0 ≤ i) (l1 : i + 6 ≤ (X.1 : Int)) (iv : IV N g) (hN : N + 300 < 800000) : Lg X d i N (EI X (d + 41) 338 1783 (LL i) [] S0 (ov g)) := by
  show Lg X d i N (EI X (d + 41) 338 1783 [some (.inr (.inr (-2))), some (.inr (.inr 1)), some (.inr (.inr 143)), some (.inl i)] [] S0 (ov g))
  have := hx (i + 1).toNat
  have := hx (i + 2).toNat
  obtain ⟨v, g1, g2, e1, e2, iv2⟩ := Pr_out (p_mean (X := X) (d := d) (g := g) (N := N) iv (by omega) (X.2 (i + 1).toNat) (X.2 (i + 2).toNat) (by omega) (by omega) (by omega) (by omega))
  rw [f_338_1783]
  simp only [w32_id (x := i + 1) (by omega) (by omega), w32_id (x := i + 2) (by omega) (by omega), al_sc X _ _ (i := i + 1) (by omega) (by omega), al_sc X _ _ (i := i + 2) (by omega) (by omega)]
  rw [K_top, oC_of e1]
  rw [K_mod, oC_of e2, if_pos rfl]
  exact Lg_end l0 (by omega) iv2 (by omega)
theorem l_1816 (hL : (X.1 : Int) ≤ 3072) (hx : ∀ j, -2147483648 ≤ X.2 j ∧ X.2 j < 2147483648) (l0 : 0 ≤ i) (l1 : i + 6 ≤ (X.1 : Int)) (iv : IV N g) (hN : N + 300 < 800000) : Lg X d i N (EI X (d + 41) 338 1816 (LL i) [] S0 (ov g)) := by
  show Lg X d i N (EI X (d + 41) 338 1816 [some (.inr (.inr (-2))), some (.inr (.inr 1)), some (.inr (.inr 143)), some (.inl i)] [] S0 (ov g))
  obtain ⟨v, g1, g2, e1, e2, iv2⟩ := Pr_out (p_mark (X := X) (d := d) (g := g) (N := N) iv)
  rw [f_338_1816]
  rw [K_top, oC_of e1]
  rw [K_mod, oC_of e2, if_pos rfl]
  exact Lg_end l0 (by omega) iv2 (by omega)
theorem l_1829 (hL : (X.1 : Int) ≤ 3072) (hx : ∀ j, -2147483648 ≤ X.2 j ∧ X.2 j < 2147483648) (l0 : 0 ≤ i) (l1 : i + 6 ≤ (X.1 : Int)) (iv : IV N g) (hN : N + 300 < 800000) : Lg X d i N (EI X (d + 41) 338 1829 (LL i) [] S0 (ov g)) := by
  show Lg X d i N (EI X (d + 41) 338 1829 [some (.inr (.inr (-2))), some (.inr (.inr 1)), some (.inr (.inr 143)), some (.inl i)] [] S0 (ov g))
  obtain ⟨v, g1, g2, e1, e2, iv2⟩ := Pr_out (p_undo (X := X) (d := d) (g := g) (N := N) iv)
  rw [f_338_1829]
  rw [K_top, oC_of e1]
  rw [K_mod, oC_of e2, if_pos rfl]
  exact Lg_end l0 (by omega) iv2 (by omega)
theorem l_it (hL : (X.1 : Int) ≤ 3072) (hx : ∀ j, -2147483648 ≤ X.2 j ∧ X.2 j < 2147483648) (l0 : 0 ≤ i) (l1 : i + 6 ≤ (X.1 : Int)) (iv : IV N g) (hN : N + 300 < 800000) : Lg X d i N (EI X (d + 41) 338 18 (LL i) [] S0 (ov g)) := by
  show Lg X d i N (EI X (d + 41) 338 18 [some (.inr (.inr (-2))), some (.inr (.inr 1)), some (.inr (.inr 143)), some (.inl i)] [] S0 (ov g))
  have e : aln X S0 (-2) = some (X.1 : Int) := rfl
  rw [f_338_18, e, oK_some, w32_id (x := (X.1 : Int) - 6) (by omega) (by omega), if_neg (by omega), al_sc X _ _ l0 (by omega)]
  generalize am_and (X.2 i.toNat) 63 = z
  by_cases h0 : z = 0
  · rw [if_pos h0]
    exact l_260 hL hx l0 l1 iv hN
  rw [if_neg h0]
  by_cases h1 : z = 1
  · rw [if_pos h1]
    exact l_273 hL hx l0 l1 iv hN
  rw [if_neg h1]
  by_cases h2 : z = 2
  · rw [if_pos h2]
    exact l_287 hL hx l0 l1 iv hN
  rw [if_neg h2]
  by_cases h3 : z = 3
  · rw [if_pos h3]
    exact l_301 hL hx l0 l1 iv hN
  rw [if_neg h3]
  by_cases h4 : z = 4
  · rw [if_pos h4]
    exact l_344 hL hx l0 l1 iv hN
  rw [if_neg h4]
  by_cases h5 : z = 5
  · rw [if_pos h5]
    exact l_417 hL hx l0 l1 iv hN
  rw [if_neg h5]
  by_cases h6 : z = 6
  · rw [if_pos h6]
    exact l_451 hL hx l0 l1 iv hN
  rw [if_neg h6]
  by_cases h7 : z = 7
  · rw [if_pos h7]
    exact l_514 hL hx l0 l1 iv hN
  rw [if_neg h7]
  by_cases h8 : z = 8
  · rw [if_pos h8]
    exact l_577 hL hx l0 l1 iv hN
  rw [if_neg h8]
  by_cases h9 : z = 9
  · rw [if_pos h9]
    exact l_600 hL hx l0 l1 iv hN
  rw [if_neg h9]
  by_cases h10 : z = 10
  · rw [if_pos h10]
    exact l_623 hL hx l0 l1 iv hN
  rw [if_neg h10]
  by_cases h11 : z = 11
  · rw [if_pos h11]
    exact l_646 hL hx l0 l1 iv hN
  rw [if_neg h11]
  by_cases h12 : z = 12
  · rw [if_pos h12]
    exact l_669 hL hx l0 l1 iv hN
  rw [if_neg h12]
  by_cases h13 : z = 13
  · rw [if_pos h13]
    exact l_702 hL hx l0 l1 iv hN
  rw [if_neg h13]
  by_cases h14 : z = 14
  · rw [if_pos h14]
    exact l_725 hL hx l0 l1 iv hN
  rw [if_neg h14]
  by_cases h15 : z = 15
  · rw [if_pos h15]
    exact l_758 hL hx l0 l1 iv hN
  rw [if_neg h15]
  by_cases h16 : z = 16
  · rw [if_pos h16]
    exact l_781 hL hx l0 l1 iv hN
  rw [if_neg h16]
  by_cases h17 : z = 17
  · rw [if_pos h17]
    exact l_814 hL hx l0 l1 iv hN
  rw [if_neg h17]
  by_cases h18 : z = 18
  · rw [if_pos h18]
    exact l_837 hL hx l0 l1 iv hN
  rw [if_neg h18]
  by_cases h19 : z = 19
  · rw [if_pos h19]
    exact l_870 hL hx l0 l1 iv hN
  rw [if_neg h19]
  by_cases h20 : z = 20
  · rw [if_pos h20]
    exact l_893 hL hx l0 l1 iv hN
  rw [if_neg h20]
  by_cases h21 : z = 21
  · rw [if_pos h21]
    exact l_906 hL hx l0 l1 iv hN
  rw [if_neg h21]
  by_cases h22 : z = 22
  · rw [if_pos h22]
    exact l_939 hL hx l0 l1 iv hN
  rw [if_neg h22]
  by_cases h23 : z = 23
  · rw [if_pos h23]
    exact l_962 hL hx l0 l1 iv hN
  rw [if_neg h23]
  by_cases h24 : z = 24
  · rw [if_pos h24]
    exact l_995 hL hx l0 l1 iv hN
  rw [if_neg h24]
  by_cases h25 : z = 25
  · rw [if_pos h25]
    exact l_1028 hL hx l0 l1 iv hN
  rw [if_neg h25]
  by_cases h26 : z = 26
  · rw [if_pos h26]
    exact l_1071 hL hx l0 l1 iv hN
  rw [if_neg h26]
  by_cases h27 : z = 27
  · rw [if_pos h27]
    exact l_1104 hL hx l0 l1 iv hN
  rw [if_neg h27]
  by_cases h28 : z = 28
  · rw [if_pos h28]
    exact l_1117 hL hx l0 l1 iv hN
  rw [if_neg h28]
  by_cases h29 : z = 29
  · rw [if_pos h29]
    exact l_1130 hL hx l0 l1 iv hN
  rw [if_neg h29]
  by_cases h30 : z = 30
  · rw [if_pos h30]
    exact l_1153 hL hx l0 l1 iv hN
  rw [if_neg h30]
  by_cases h31 : z = 31
  · rw [if_pos h31]
    exact l_1176 hL hx l0 l1 iv hN
  rw [if_neg h31]
  by_cases h32 : z = 32
  · rw [if_pos h32]
    exact l_1189 hL hx l0 l1 iv hN
  rw [if_neg h32]
  by_cases h33 : z = 33
  · rw [if_pos h33]
    exact l_1202 hL hx l0 l1 iv hN
  rw [if_neg h33]
  by_cases h34 : z = 34
  · rw [if_pos h34]
    exact l_1235 hL hx l0 l1 iv hN
  rw [if_neg h34]
  by_cases h35 : z = 35
  · rw [if_pos h35]
    exact l_1278 hL hx l0 l1 iv hN
  rw [if_neg h35]
  by_cases h36 : z = 36
  · rw [if_pos h36]
    exact l_1311 hL hx l0 l1 iv hN
  rw [if_neg h36]
  by_cases h37 : z = 37
  · rw [if_pos h37]
    exact l_1354 hL hx l0 l1 iv hN
  rw [if_neg h37]
  by_cases h38 : z = 38
  · rw [if_pos h38]
    exact l_1387 hL hx l0 l1 iv hN
  rw [if_neg h38]
  by_cases h39 : z = 39
  · rw [if_pos h39]
    exact l_1430 hL hx l0 l1 iv hN
  rw [if_neg h39]
  by_cases h40 : z = 40
  · rw [if_pos h40]
    exact l_1473 hL hx l0 l1 iv hN
  rw [if_neg h40]
  by_cases h41 : z = 41
  · rw [if_pos h41]
    exact l_1516 hL hx l0 l1 iv hN
  rw [if_neg h41]
  by_cases h42 : z = 42
  · rw [if_pos h42]
    exact l_1539 hL hx l0 l1 iv hN
  rw [if_neg h42]
  by_cases h43 : z = 43
  · rw [if_pos h43]
    exact l_1602 hL hx l0 l1 iv hN
  rw [if_neg h43]
  by_cases h44 : z = 44
  · rw [if_pos h44]
    exact l_1655 hL hx l0 l1 iv hN
  rw [if_neg h44]
  by_cases h45 : z = 45
  · rw [if_pos h45]
    exact l_1678 hL hx l0 l1 iv hN
  rw [if_neg h45]
  by_cases h46 : z = 46
  · rw [if_pos h46]
    exact l_1691 hL hx l0 l1 iv hN
  rw [if_neg h46]
  by_cases h47 : z = 47
  · rw [if_pos h47]
    exact l_1714 hL hx l0 l1 iv hN
  rw [if_neg h47]
  by_cases h48 : z = 48
  · rw [if_pos h48]
    exact l_1737 hL hx l0 l1 iv hN
  rw [if_neg h48]
  by_cases h49 : z = 49
  · rw [if_pos h49]
    exact l_1760 hL hx l0 l1 iv hN
  rw [if_neg h49]
  by_cases h50 : z = 50
  · rw [if_pos h50]
    exact l_1783 hL hx l0 l1 iv hN
  rw [if_neg h50]
  by_cases h51 : z = 51
  · rw [if_pos h51]
    exact l_1816 hL hx l0 l1 iv hN
  rw [if_neg h51]
  by_cases h52 : z = 52
  · rw [if_pos h52]
    exact l_1829 hL hx l0 l1 iv hN
  rw [if_neg h52]
  exact Lg_end l0 (by omega) iv (by omega)
theorem l_loop (hL : (X.1 : Int) ≤ 3072) (hx : ∀ j, -2147483648 ≤ X.2 j ∧ X.2 j < 2147483648) : ∀ (k : Nat) (i N : Int) (g : Mem), (X.1 : Int) < i + 6 * k + 6 → 0 ≤ i → i ≤ (X.1 : Int) + 6 → N ≤ 50 * i → IV N g → ∃ g', EI X (d + 41) 338 18 (LL i) [] S0 (ov g) = some (1, S0, ov g') := by
  intro k
  induction k with
  | zero =>
    intro i N g h1 h2 h3 h4 iv
    show ∃ g', EI X (d + 41) 338 18 [some (.inr (.inr (-2))), some (.inr (.inr 1)), some (.inr (.inr 143)), some (.inl i)] [] S0 (ov g) = some (1, S0, ov g')
    have e : aln X S0 (-2) = some (X.1 : Int) := rfl
    rw [f_338_18, e, oK_some, w32_id (x := (X.1 : Int) - 6) (by omega) (by omega), if_pos (by omega)]
    exact ⟨g, rfl⟩
  | succ k ih =>
    intro i N g h1 h2 h3 h4 iv
    by_cases z : (X.1 : Int) - 6 < i
    · show ∃ g', EI X (d + 41) 338 18 [some (.inr (.inr (-2))), some (.inr (.inr 1)), some (.inr (.inr 143)), some (.inl i)] [] S0 (ov g) = some (1, S0, ov g')
      have e : aln X S0 (-2) = some (X.1 : Int) := rfl
      rw [f_338_18, e, oK_some, w32_id (x := (X.1 : Int) - 6) (by omega) (by omega), if_pos z]
      exact ⟨g, rfl⟩
    · obtain ⟨g', iv', e⟩ := l_it (X := X) (d := d) (g := g) (i := i) (N := N) hL hx h2 (by omega) iv (by omega)
      rw [e]
      exact ih (i + 6) (N + 300) g' (by omega) (by omega) (by omega) (by omega) iv'
end
theorem law_start (X : Xs) (d : Nat) : ∃ g, IV 0 g ∧ MI X (d + 11) 338 [.inr (.inr (-2))] [(99, 0)] (fun _ _ => 0) = EI X (d + 11) 338 18 (LL 0) [] S0 (ov g) := by
  have q0 : Rq [(1, 13, 0), (1, 14, 0), (1, 15, 0), (1, 18, 0), (141, 2, 0), (143, 2, 0), (143, 3, 0), (143, 10, 0), (143, 38, 0), (143, 39, 0)] (fun _ _ => 0) := fun p m => by
    simp only [List.mem_cons, List.not_mem_nil, or_false] at m
    rcases m with rfl | rfl | rfl | rfl | rfl | rfl | rfl | rfl | rfl | rfl <;> rfl
  obtain ⟨v, g1, e1, q1⟩ := n_127 (X := X) (d := d) _ rfl q0
  obtain ⟨v2, g2, e2, q2, z2⟩ := n_195 (X := X) (d := d + 9) g1 q1
  obtain ⟨iv, eo⟩ := IV_start q2 z2
  have t2 : ([(99, 0)] : Sh) ++ [(10, 20)] = Tk 2 := rfl
  have t2l : ((([(99, 0)] : Sh).length : Nat) : Int) = 1 := rfl
  have t3 : Tk 143 ++ [(11, 40)] = Tk 144 := rfl
  have t3l : (((Tk 143).length : Nat) : Int) = 143 := rfl
  refine ⟨g2, iv, ?_⟩
  rw [f_338, t2, t2l, if_pos (show kd (Tk 2) 1 = 10 from rfl), oC_of e1, t3, t3l, if_pos (show kd (Tk 144) 143 = 11 from rfl), oC_of e2, eo]
  rfl
theorem law_MI (X : Xs) (hL : (X.1 : Int) ≤ 3072) (hx : ∀ j, -2147483648 ≤ X.2 j ∧ X.2 j < 2147483648) : ∃ g, MI X 1000 338 [.inr (.inr (-2))] [(99, 0)] (fun _ _ => 0) = some (1, S0, ov g) := by
  obtain ⟨g, iv, e⟩ := law_start X 989
  have e' : MI X 1000 338 [.inr (.inr (-2))] [(99, 0)] (fun _ _ => 0) = EI X (959 + 41) 338 18 (LL 0) [] S0 (ov g) := e
  obtain ⟨g', e2⟩ := l_loop (X := X) (d := 959) hL hx 512 0 0 g (by omega) (by omega) (by omega) (by omega) iv
  exact ⟨g', e'.trans e2⟩
theorem law_exec (X : Xs) (hL : (X.1 : Int) ≤ 3072) (hx : ∀ j, -2147483648 ≤ X.2 j ∧ X.2 j < 2147483648) : ∃ (n : Nat) (h : Mem), exec X n 1000 338 0 (entF 338 [.inr (.inr (-2))]) [] [(99, 0)] (fun _ _ => 0) = some (some (.inl 1), S0, h) := by
  obtain ⟨g, e⟩ := law_MI X hL hx
  have e1 : MI X 1000 338 [.inr (.inr (-2))] [(99, 0)] (fun _ _ => 0) = (EX X 1000 338 0 (entF 338 [.inr (.inr (-2))]) [] [(99, 0)] (fun _ _ => 0)).map resN := rfl
  rw [e1] at e
  cases hr : EX X 1000 338 0 (entF 338 [.inr (.inr (-2))]) [] [(99, 0)] (fun _ _ => 0) with
  | none => rw [hr] at e; cases e
  | some r =>
    rw [hr] at e
    obtain ⟨n, hn⟩ := (EX_iff X).mp hr
    have hk := exec_kind X _ _ _ _ _ _ _ _ _ hn
    have er := Option.some.inj e
    obtain ⟨v, S, m⟩ := r
    have es : S = S0 := congrArg (fun z : Rs => z.2.1) er
    have ev := congrArg (fun z : Rs => z.1) er
    subst es
    refine ⟨n, m, hn.trans ?_⟩
    have rk : rkOf 338 = 3 := rfl
    rw [rk] at hk
    cases v with
    | none =>
      have z : (3 : Nat) = 0 := hk
      omega
    | some w =>
      cases w with
      | inl x =>
        have z : x = 1 := ev
        rw [z]
      | inr w =>
        cases w with
        | inl x =>
          have z : (3 : Nat) = 2 := hk
          omega
        | inr x => exact hk.elim

