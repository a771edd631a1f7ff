/-! YEARS told, the model: how it stands between STEPS -/
def MY (t : Int → Int) (n : Int) (g : Mem) (s nm : Int → Int) (R : Int → Int → Int) (np ns D : Int) (om : Int → Int) (q : Int) : Prop := Mg t n g q ∧ NMm g s nm ∧ rd g 144 1899 = np ∧ rd g 143 22 = D ∧ rd g 143 23 = ns ∧ (∀ l, 0 ≤ l → l < D → rd g 151 l = om l ∧ 0 ≤ om l ∧ om l < np) ∧ (∀ i k, 0 ≤ i → i < np → 0 ≤ k → k < 6 → rd g 144 (1992 + 6 * i + k) = R i k) ∧ (0 ≤ ns ∧ ns ≤ 30 ∧ 0 ≤ D ∧ D ≤ 3 ∧ 0 ≤ np ∧ np + D ≤ 2 * ns)
theorem MY_ad {t : Int → Int} {n q q' : Int} {g g' : Mem} {s nm om om' row : Int → Int} {R : Int → Int → Int} {np ns D D' : Int} (my : MY t n g s nm R np ns D om q) (mg : Mg t n g' q') (i8 : s 0 ≤ 8) (i6 : s 1 ≤ 6) (h99 : rd g' 144 1899 = np + 1) (h22 : rd g' 143 22 = D') (h23 : rd g' 143 23 = ns + 1) (hom : ∀ l, 0 ≤ l → l < D' → rd g' 151 l = om' l ∧ 0 ≤ om' l ∧ om' l < np + 1) (fr : ∀ i, 0 ≤ i → i < 1992 + 6 * np → i ≠ 1899 → rd g' 144 i = rd g 144 i) (fn : ∀ i, 0 ≤ i → rd g' 145 i = rd g 145 i) (rt : Rat g' (1992 + 6 * np) row) (n30 : ns < 30) (bD : 0 ≤ D' ∧ D' ≤ 3 ∧ D' ≤ D + 1) : MY t n g' s nm (adR R np row) (np + 1) (ns + 1) D' om' q' := by
  obtain ⟨-, ⟨m0, m1, m2, m3⟩, a3, a4, a5, a6, a7, a8⟩ := my
  refine ⟨mg, ⟨(fr _ (by omega) (by omega) (by omega)).trans m0, (fr _ (by omega) (by omega) (by omega)).trans m1, fun i x y => (fn i x).trans (m2 i x y), fun i x y => (fn _ (by omega)).trans (m3 i x y)⟩, h99, h22, h23, hom, fun i k x y z w => ?_, by omega⟩
  unfold adR
  by_cases e : i = np
  · rw [if_pos e, e]; exact rt k z w
  · rw [if_neg e, fr _ (by omega) (by omega) (by omega)]; exact a7 i k x (by omega) z w
theorem MY_cl {t : Int → Int} {n q q' : Int} {g g' : Mem} {s nm om : Int → Int} {R : Int → Int → Int} {np ns D : Int} (my : MY t n g s nm R np ns D om q) (mg : Mg t n g' q') (hD : 0 < D) (h99 : rd g' 144 1899 = np + 1) (h22 : rd g' 143 22 = D - 1) (h23 : rd g' 143 23 = ns) (h151 : ∀ l, 0 ≤ l → rd g' 151 l = rd g 151 l) (fr : ∀ i, 0 ≤ i → i < 1992 + 6 * np → i ≠ 1899 → i ≠ 1992 + 6 * om (D - 1) + 4 → rd g' 144 i = rd g 144 i) (f4 : rd g' 144 (1992 + 6 * om (D - 1) + 4) = np) (fn : ∀ i, 0 ≤ i → rd g' 145 i = rd g 145 i) (rt : Rat g' (1992 + 6 * np) (us (row0 21) 4 (om (D - 1)))) : MY t n g' s nm (clR R np (om (D - 1))) (np + 1) ns (D - 1) om q' := by
  obtain ⟨-, ⟨m0, m1, m2, m3⟩, a3, a4, a5, a6, a7, a8⟩ := my
  have b := a6 (D - 1) (by omega) (by omega)
  refine ⟨mg, ⟨(fr _ (by omega) (by omega) (by omega) (by omega)).trans m0, (fr _ (by omega) (by omega) (by omega) (by omega)).trans m1, fun i x y => (fn i x).trans (m2 i x y), fun i x y => (fn _ (by omega)).trans (m3 i x y)⟩, h99, h22, h23, fun l x y => ?_, fun i k x y z w => ?_, by omega⟩
  · have c := a6 l x (by omega)
    exact ⟨(h151 l x).trans c.1, c.2.1, by omega⟩
  · unfold clR
    by_cases e : i = np
    · rw [if_pos e, e, rt k z w]
      unfold us row0
      (repeat' split) <;> first | rfl | omega
    · rw [if_neg e]
      by_cases v : i = om (D - 1) ∧ k = 4
      · rw [if_pos v, v.1, v.2]; exact f4
      · rw [if_neg v, fr _ (by omega) (by omega) (by omega) (by omega)]; exact a7 i k x (by omega) z w
