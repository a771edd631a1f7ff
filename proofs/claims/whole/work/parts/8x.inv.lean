/-! WHAT HOLDS BETWEEN CALLS of both; what is only asked, what changes the DAWN alone -/
/-- the words that the class keeps, in its order -/
def rsvL : List Int := [1819242087, 7566702, 444199957093, 1868850291, 499967946343, 491327153000, 131277443786868, 108243466677107, 7168366, 8319400191629685864, 1818846821, 448545973363, 1835361652, 1919251316, 26479, 1650549611, 126943972911973, 1751474540, 6385273, 2003330414, 1852137842, 108243635103086, 112602892498035, 1819242352, 6647396, 1937010544]
def rsv (i : Int) : Int := rsvL.getD i.toNat 0
def TP (g : Mem) : Prop := rd g 1 14 = rd g 143 10 ∧ 0 ≤ rd g 1 14 ∧ rd g 1 14 ≤ 900 ∧ ∀ i, 0 ≤ i → i < rd g 1 14 → rd g 10 i = rd g 149 i ∧ -128 ≤ rd g 10 i ∧ rd g 10 i < 128
def FA (g : Mem) : Prop := rd g 1 16 = rd g 143 16 ∧ rd g 1 17 = rd g 143 17
def FR2 (g : Mem) : Prop := rd g 1 18 = rd g 143 3 ∧ rd g 1 19 = rd g 143 4
def MK (N : Int) (g : Mem) : Prop := rd g 1 13 = rd g 143 39 ∧ 0 ≤ rd g 1 13 ∧ rd g 1 13 ≤ 3 ∧ ∀ k, 1 ≤ k → k ≤ rd g 1 13 → ∃ s, DS N g (41 + 21 * k) k s
def LV (g : Mem) : Prop := rd g 141 2 = rd g 143 38 ∧ (rd g 141 2 = 0 ∨ rd g 141 2 = 1) ∧ (rd g 141 2 = 1 → (∀ j, 0 ≤ j → j < 5 → rd g 141 (4 + j) = rd g 162 j) ∧ 0 ≤ rd g 141 8 ∧ rd g 141 8 ≤ 1)
def RWd (g : Mem) : Prop := ∀ i, 0 ≤ i → i < 26 → rd g 15 i = rsv i
def IV (N : Int) (g : Mem) : Prop := (∃ s, DS N g 19 0 s) ∧ TR g ∧ TP g ∧ rd g 1 15 = rd g 143 2 ∧ FA g ∧ FR2 g ∧ MK N g ∧ LV g ∧ RWd g
theorem TP_fr {g g' : Mem} (h : TP g) (f : ∀ c i, 0 ≤ i → ((c = 1 ∧ i = 14) ∨ c = 10 ∨ (c = 143 ∧ i = 10) ∨ c = 149) → rd g' c i = rd g c i) : TP g' := by
  obtain ⟨a, b, c, e⟩ := h
  unfold TP
  rw [f 1 14 (by omega) (by omega), f 143 10 (by omega) (by omega)]
  refine ⟨a, b, c, fun i i0 i1 => ?_⟩
  rw [f 10 i i0 (by omega), f 149 i i0 (by omega)]
  exact e i i0 i1
theorem FA_fr {g g' : Mem} (h : FA g) (f : ∀ c i, ((c = 1 ∧ (i = 16 ∨ i = 17)) ∨ (c = 143 ∧ (i = 16 ∨ i = 17))) → rd g' c i = rd g c i) : FA g' := by
  unfold FA at *
  rw [f 1 16 (by omega), f 1 17 (by omega), f 143 16 (by omega), f 143 17 (by omega)]
  exact h
theorem FR2_fr {g g' : Mem} (h : FR2 g) (f : ∀ c i, ((c = 1 ∧ (i = 18 ∨ i = 19)) ∨ (c = 143 ∧ (i = 3 ∨ i = 4))) → rd g' c i = rd g c i) : FR2 g' := by
  unfold FR2 at *
  rw [f 1 18 (by omega), f 1 19 (by omega), f 143 3 (by omega), f 143 4 (by omega)]
  exact h
theorem MK_fr {N M : Int} {g g' : Mem} (h : MK N g) (l : N ≤ M) (f : ∀ c i, 0 ≤ i → ((c = 1 ∧ i = 13) ∨ (62 ≤ c ∧ c ≤ 124) ∨ (c = 143 ∧ i = 39) ∨ (c = 144 ∧ 472 ≤ i ∧ i < 1888) ∨ (c = 145 ∧ 14 ≤ i ∧ i < 56)) → rd g' c i = rd g c i) : MK M g' := by
  obtain ⟨a, b, c, e⟩ := h
  unfold MK
  rw [f 1 13 (by omega) (by omega), f 143 39 (by omega) (by omega)]
  refine ⟨a, b, c, fun k k0 k1 => ?_⟩
  obtain ⟨s, hs⟩ := e k k0 k1
  exact ⟨s, DS_fr (DS_le hs l) (fun c i x y z => f c i z (by omega)) (fun i x y => f _ _ (by omega) (by omega)) (fun i x y => f _ _ (by omega) (by omega))⟩
theorem LV_fr {g g' : Mem} (h : LV g) (f : ∀ c i, 0 ≤ i → (c = 141 ∨ (c = 143 ∧ i = 38) ∨ c = 162) → rd g' c i = rd g c i) : LV g' := by
  obtain ⟨a, b, e⟩ := h
  unfold LV
  rw [f 141 2 (by omega) (by omega), f 143 38 (by omega) (by omega), f 141 8 (by omega) (by omega)]
  refine ⟨a, b, fun z => ?_⟩
  obtain ⟨e1, e2⟩ := e z
  refine ⟨fun j j0 j1 => ?_, e2⟩
  rw [f 141 _ (by omega) (by omega), f 162 j j0 (by omega)]
  exact e1 j j0 j1
theorem RW_fr {g g' : Mem} (h : RWd g) (f : ∀ i, 0 ≤ i → rd g' 15 i = rd g 15 i) : RWd g' := fun i a b => by rw [f i a]; exact h i a b
/-- all but the DAWN, TRAYS and the STATUS -/
def Oth (c i : Int) : Prop := (c = 1 ∧ (i = 13 ∨ i = 14 ∨ (16 ≤ i ∧ i ≤ 19))) ∨ c = 10 ∨ c = 15 ∨ (62 ≤ c ∧ c ≤ 124) ∨ c = 141 ∨ (c = 143 ∧ (i = 3 ∨ i = 4 ∨ i = 10 ∨ i = 16 ∨ i = 17 ∨ i = 38 ∨ i = 39)) ∨ (c = 144 ∧ 472 ≤ i ∧ i < 1888) ∨ (c = 145 ∧ 14 ≤ i ∧ i < 56) ∨ c = 149 ∨ c = 162
theorem IV_of {N M : Int} {g g' : Mem} (iv : IV N g) (l : N ≤ M) (hD : ∃ s, DS M g' 19 0 s) (hT : TR g') (hs : rd g' 1 15 = rd g' 143 2) (f : ∀ c i, 0 ≤ i → Oth c i → rd g' c i = rd g c i) : IV M g' := by
  obtain ⟨-, -, v3, -, v5, v6, v7, v8, v9⟩ := iv
  exact ⟨hD, hT, TP_fr v3 (fun c i a b => f c i a (by unfold Oth; omega)), hs, FA_fr v5 (fun c i b => f c i (by omega) (by unfold Oth; omega)), FR2_fr v6 (fun c i b => f c i (by omega) (by unfold Oth; omega)), MK_fr v7 l (fun c i a b => f c i a (by unfold Oth; omega)), LV_fr v8 (fun c i a b => f c i a (by unfold Oth; omega)), RW_fr v9 (fun i a => f 15 i a (by unfold Oth; omega))⟩
theorem IV_le {N M : Int} {g : Mem} (iv : IV N g) (l : N ≤ M) : IV M g := by
  obtain ⟨s, hs⟩ := iv.1
  exact IV_of iv l ⟨s, DS_le hs l⟩ iv.2.1 iv.2.2.2.1 (fun _ _ _ _ => rfl)
/-- nothing but scratch and the STATUS is other, in both -/
def Fz (g g' : Mem) : Prop := ∀ c i, 0 ≤ c → 0 ≤ i → ¬ ScC c → ¬ ScM c i → (c ≠ 1 ∨ i ≠ 15) → (c ≠ 143 ∨ i ≠ 2) → rd g' c i = rd g c i
theorem IV_Fz {N M : Int} {g g' : Mem} (iv : IV N g) (l : N ≤ M) (f : Fz g g') (hs : rd g' 1 15 = rd g' 143 2) : IV M g' := by
  obtain ⟨s, hs'⟩ := iv.1
  have k : ∀ c i, 0 ≤ i → (Oth c i ∨ (19 ≤ c ∧ c ≤ 39) ∨ (4 ≤ c ∧ c ≤ 9) ∨ (146 ≤ c ∧ c ≤ 148) ∨ (c = 144 ∧ i < 1888) ∨ (c = 145 ∧ i < 56)) → rd g' c i = rd g c i := fun c i a h => f c i (by unfold Oth at h; omega) a (by unfold ScC Oth at *; omega) (by unfold ScM Oth at *; omega) (by unfold Oth at h; omega) (by unfold Oth at h; omega)
  exact IV_of iv l ⟨s, DS_fr (DS_le hs' l) (fun c i x y z => k c i z (by omega)) (fun i x y => k _ _ (by omega) (by omega)) (fun i x y => k _ _ (by omega) (by omega))⟩ (TR_fr iv.2.1 (fun c i h a => k c i a (by omega))) hs (fun c i a h => k c i a (Or.inl h))
section
variable {N : Int} {g : Mem}
/-- what is only asked -/
theorem Pr_ask {M : Int} {q : Int × Int} {oc : Option Rs} {om : Mem → Option Rs} (iv : IV N g) (l : N ≤ M) (hC : AnC g q oc) (hM : ∀ g1, FC g g1 → AnM g1 q (om g1)) : Pr (IV M) oc om := by
  refine Ok_mono hC ?_
  rintro v g1 ⟨a1, a2, a3⟩
  refine Ok_mono (hM g1 a3) ?_
  rintro w g2 ⟨b1, b2, b3⟩
  have e : rd g2 1 15 = rd g2 143 2 := by rw [b2, b3 _ _ (by omega) (by omega) (by unfold ScM; omega) (by omega), a2]
  exact ⟨a1.trans b1.symm, e, IV_Fz iv l (fun c i x y z w u t => (b3 c i x y w t).trans (a3 c i x y z u)) e⟩
theorem RM_FC {g1 : Mem} {s : Int → Int} (r : RM g s) (f : FC g g1) : RM g1 s := fun i a b => by rw [f _ _ (by omega) a (by unfold ScC; omega) (by omega)]; exact r i a b
theorem Pr_asks {M : Int} {q : (Int → Int) → Int × Int} {oc : Option Rs} {om : Mem → Option Rs} (iv : IV N g) (l : N ≤ M) (hC : ∀ s, RD g 19 s → Iv N s → AnC g (q s) oc) (hM : ∀ g1 s, RM g1 s → Iv N s → AnM g1 (q s) (om g1)) : Pr (IV M) oc om := by
  obtain ⟨s, hs⟩ := iv.1
  exact Pr_ask iv l (hC s hs.1 hs.2.2.1) (fun g1 f => hM g1 s (RM_FC (DS_RM hs) f) hs.2.2.1)
/-- what changes the DAWN -/
theorem Pr_do {M : Int} {q : (Int → Int) → Int × Int} {u : (Int → Int) → Int → Int} {oc : Option Rs} {om : Mem → Option Rs} (iv : IV N g) (l : N ≤ M) (hu : ∀ s, Iv N s → Iv M (u s) ∧ u s 0 = s 0 ∧ u s 1 = s 1 ∧ u s 11 = s 11) (hC : ∀ s, RD g 19 s → Iv N s → AnCD g (q s) (u s) oc) (hM : ∀ g1 s, RM g1 s → Iv N s → AnMD g1 (q s) (u s) (om g1)) : Pr (IV M) oc om := by
  obtain ⟨s, hs⟩ := iv.1
  obtain ⟨u1, u2, u3, u4⟩ := hu s hs.2.2.1
  have rm := DS_RM hs
  refine Ok_mono (hC s hs.1 hs.2.2.1) ?_
  rintro v g1 ⟨a1, a2, a3, a4⟩
  have rm1 : RM g1 s := fun i a b => by rw [a4 _ _ (by omega) a (by unfold ScC; omega) (by omega) (by omega)]; exact rm i a b
  refine Ok_mono (hM g1 s rm1 hs.2.2.1) ?_
  rintro w g2 ⟨b1, b2, b3, b4⟩
  have e : rd g2 1 15 = rd g2 143 2 := by rw [b2, b4 _ _ (by omega) (by omega) (by unfold ScM; omega) (by omega) (by omega), a2]
  have k : ∀ c i, 0 ≤ i → (Oth c i ∨ (30 ≤ c ∧ c ≤ 39) ∨ (4 ≤ c ∧ c ≤ 9) ∨ (146 ≤ c ∧ c ≤ 148) ∨ (c = 144 ∧ 104 ≤ i ∧ i < 1888) ∨ (c = 145 ∧ i < 56)) → rd g2 c i = rd g c i := fun c i a h => (b4 c i (by unfold Oth at h; omega) a (by unfold ScM Oth at *; omega) (by unfold Oth at h; omega) (by unfold Oth at h; omega)).trans (a4 c i (by unfold Oth at h; omega) a (by unfold ScC Oth at *; omega) (by unfold Oth at h; omega) (by unfold Oth at h; omega))
  obtain ⟨h1, h2, h3, ⟨n1, n2⟩, h5⟩ := hs
  refine ⟨a1.trans b1.symm, e, IV_of iv l ⟨u s, ?_, fun i x y => ?_, u1, ⟨fun t x y => ?_, fun t x y => ?_⟩, YR_fr h5 (by omega) u3 u4 (k _ _ (by omega) (by omega)) (k _ _ (by omega) (by omega)) (fun c t x y z w => k _ _ z (by omega)) (fun i x y => k _ _ (by omega) (by omega))⟩ (TR_fr iv.2.1 (fun c i h a => k c i a (by omega))) e (fun c i a h => k c i a (Or.inl h))⟩
  · exact RD_fr a3 (fun c i x y => by
      by_cases z : 0 ≤ i
      · exact b4 c i (by omega) z (by unfold ScM; omega) (by omega) (by omega)
      · have := b4 c 0 (by omega) (by omega) (by unfold ScM; omega) (by omega) (by omega)
        rw [show rd g2 c i = rd g2 c 0 by unfold rd; rw [show i.toNat = (0 : Int).toNat by omega], show rd g1 c i = rd g1 c 0 by unfold rd; rw [show i.toNat = (0 : Int).toNat by omega]]
        exact this)
  · rw [show 472 * 0 + i = i by omega]; exact b3 i x y
  · rw [u2] at y
    obtain ⟨-, i8, -⟩ := h3
    rw [k _ _ x (by omega), k 145 _ (by omega) (by omega)]; exact n1 t x y
  · rw [u3] at y
    obtain ⟨-, -, -, i6, -⟩ := h3
    rw [k _ _ x (by omega), k 145 _ (by omega) (by omega)]; exact n2 t x y
end
