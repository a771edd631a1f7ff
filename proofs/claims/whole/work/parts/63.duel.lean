/-! THE DUEL, asked of both: acts, wound, value, move, forced, reached -/
/-- scratch of the class, of the model -/
def ScC (c : Int) : Prop := (125 ≤ c ∧ c ≤ 140) ∨ c = 142 ∨ (40 ≤ c ∧ c ≤ 60) ∨ (11 ≤ c ∧ c ≤ 14) ∨ (16 ≤ c ∧ c ≤ 18)
def ScM (c i : Int) : Prop := (c = 144 ∧ 1888 ≤ i) ∨ (c = 145 ∧ 56 ≤ i) ∨ (150 ≤ c ∧ c ≤ 161) ∨ (c = 143 ∧ ((11 ≤ i ∧ i ≤ 15) ∨ (18 ≤ i ∧ i ≤ 20) ∨ i = 22 ∨ i = 23 ∨ i = 31 ∨ i = 33 ∨ i = 34))
/-- nothing but scratch and the STATUS is other -/
def FC (g g' : Mem) : Prop := ∀ c i, 0 ≤ c → 0 ≤ i → ¬ ScC c → (c ≠ 1 ∨ i ≠ 15) → rd g' c i = rd g c i
def FN (g g' : Mem) : Prop := ∀ c i, 0 ≤ c → 0 ≤ i → ¬ ScM c i → (c ≠ 143 ∨ i ≠ 2) → rd g' c i = rd g c i
theorem FC_tr {g g1 g2 : Mem} (h1 : FC g g1) (h2 : FC g1 g2) : FC g g2 := fun c i a b e f => (h2 c i a b e f).trans (h1 c i a b e f)
theorem FN_tr {g g1 g2 : Mem} (h1 : FN g g1) (h2 : FN g1 g2) : FN g g2 := fun c i a b e f => (h2 c i a b e f).trans (h1 c i a b e f)
theorem FC_rf (g : Mem) : FC g g := fun _ _ _ _ _ _ => rfl
theorem FN_rf (g : Mem) : FN g g := fun _ _ _ _ _ _ => rfl
theorem FC_FB {g g1 : Mem} (h : FB g g1) : FC g g1 := fun c i a b e f => h c i a (by unfold ScC at e; omega)
theorem FC_st (g : Mem) (x : Int) : FC g (wr g 1 15 x) := fun c i a b e f => by
  by_cases z : c = 1
  · subst z; exact rd_wr_ix g x (by omega) b (by omega)
  · exact rd_wr_ne g 15 i x (by omega) a z
theorem FN_st (g : Mem) (x : Int) : FN g (wr g 143 2 x) := fun c i a b e f => by
  by_cases z : c = 143
  · subst z; exact rd_wr_ix g x (by omega) b (by omega)
  · exact rd_wr_ne g 2 i x (by omega) a z
theorem FN_FQ {g g1 : Mem} (h : FQ g g1) : FN g g1 := fun c i a b e f => h c i a b (by unfold ScM at e; omega) (by unfold ScM at e; omega) (by unfold ScM at e; omega) (by unfold ScM at e; omega)
/-- an answer and its STATUS, in the class and in the model -/
def AnC (g : Mem) (q : Int × Int) (o : Option Rs) : Prop := Ok (fun v g' => v = q.1 ∧ rd g' 1 15 = q.2 ∧ FC g g') o
def AnM (g : Mem) (q : Int × Int) (o : Option Rs) : Prop := Ok (fun v g' => v = q.1 ∧ rd g' 143 2 = q.2 ∧ FN g g') o
section
variable {X : Xs} {d : Nat} {g g1 : Mem} {s : Int → Int} {N : Int}
theorem AnC_tell (h : FC g g1) (v : Int) : AnC g (v, 0) (oC (MI X d 181 [.inr (.inr 1), .inl v] S0 (ov g1)) fun r S m => some (r, S, m)) := by
  rw [oC_of (c_181 v)]
  exact Ok_some ⟨rfl, rd_wr_eq _ _ _ _, FC_tr h (FC_st _ _)⟩
theorem AnC_no (h : FC g g1) (v : Int) : AnC g (-1, v) (oC (MI X d 183 [.inr (.inr 1), .inl v] S0 (ov g1)) fun r S m => some (r, S, m)) := by
  rw [oC_of (c_183 v)]
  exact Ok_some ⟨rfl, rd_wr_eq _ _ _ _, FC_tr h (FC_st _ _)⟩
theorem AnC_orN (h : FC g g1) (v : Int) : AnC g (orN v) (oC (MI X (d + 1) 182 [.inr (.inr 1), .inl v] S0 (ov g1)) fun r S m => some (r, S, m)) := by
  rw [oC_of (c_182 v)]
  refine Ok_some ⟨?_, ?_, FC_tr h (FC_st _ _)⟩
  · unfold orN; split <;> first | rfl | assumption
  · rw [rd_wr_eq]; unfold orN; split <;> rfl
theorem AnM_tell (h : FN g g1) (v : Int) : AnM g (v, 0) (oC (MI X d 202 [.inr (.inr 143), .inl v] S0 (ov g1)) fun r S m => some (r, S, m)) := by
  rw [oC_of (m_202 v)]
  exact Ok_some ⟨rfl, rd_wr_eq _ _ _ _, FN_tr h (FN_st _ _)⟩
theorem AnM_no (h : FN g g1) (v : Int) : AnM g (-1, v) (oC (MI X d 201 [.inr (.inr 143), .inl v] S0 (ov g1)) fun r S m => some (r, S, m)) := by
  rw [oC_of (m_201 v)]
  exact Ok_some ⟨rfl, rd_wr_eq _ _ _ _, FN_tr h (FN_st _ _)⟩
theorem AnM_orN (h : FN g g1) (v : Int) : AnM g (orN v) (oC (MI X (d + 1) 203 [.inr (.inr 143), .inl v] S0 (ov g1)) fun r S m => some (r, S, m)) := by
  rw [oC_of (m_203 v)]
  refine Ok_some ⟨?_, ?_, FN_tr h (FN_st _ _)⟩
  · unfold orN; split <;> first | rfl | assumption
  · rw [rd_wr_eq]; unfold orN; split <;> rfl
end
def qWound (s : Int → Int) : Int × Int := if s 6 = -1 then (-1, 6) else (huB (boN s) (s 10 % 2), 0)
def qValue (s : Int → Int) (n : Int) : Int × Int := if n < 0 ∨ 7 < n then (-1, 1) else if s 6 = -1 then (-1, 6) else (vaB lfV 0 n.toNat (boN s), 0)
def qMove (s : Int → Int) (n : Int) : Int × Int := if n < 1 ∨ 7 < n then (-1, 1) else if s 6 = -1 then (-1, 6) else (chF (decide (s 10 % 2 = 0)) (fun a => decide (caB (boN s) a)) (fun a => vaB lfV 0 (n - 1).toNat (plB (boN s) a)) 3 1 (vaB lfV 0 (n - 1).toNat (plB (boN s) 0)) 0, 0)
def qReached (s : Int → Int) : Int × Int := if s 6 = -1 then (-1, 6) else (let a := s 9 - s 8 - reB (boN s) (s 10 % 2); if a ≤ 0 then 0 else a + a % 2, 0)
section
variable {X : Xs} {d : Nat} {g : Mem} {s : Int → Int} {N : Int}
theorem IB_N (hi : Iv N s) (hN : N < 900000) (hd : s 6 ≠ -1) : IB (boN s) := by
  obtain ⟨i0, i1, i2, i3, j2, j3, j4, j5, j6, j7, j8, j9, it, im, iw, ia, ih, i6, iu⟩ := id hi
  obtain ⟨u0, u1, u2, u3, u4, u5, u6, u7, u8, u9, u10, u11⟩ := iu hd
  exact IB_bo hi (by omega) u0 u1 u2 u3 ⟨u7, u8, u9, u10, u11⟩
theorem c_156 (r : RD g 19 s) (hi : Iv N s) (hN : N < 800000) : AnC g (qWound s) (MI X (d + 3) 156 [.inr (.inr 1)] S0 (ov g)) := by
  rw [e_156]
  simp only [↓K_top, ↓G_top, ↓P_top, ↓K_daw isD19, ↓oC_of (c_40 isD19 r), ↓if_b2i, ↓K_bou]
  unfold qWound
  by_cases hd : s 6 = -1
  · rw [if_pos hd, if_neg (fun z => z hd)]
    exact AnC_no (FC_rf g) 6
  · rw [if_pos hd, if_neg hd]
    refine Ok_bind (c_2 isD19 r hi hd) ?_
    rintro v g2 ⟨q1, q2⟩
    have IBs := IB_N hi (by omega) hd
    have hm : boN s 6 % 2 = 0 ∨ boN s 6 % 2 = 1 := by omega
    simp only [↓K_top, ↓G_top, ↓P_top, ↓K_bou, ↓oC_of (c_6 q1 IBs), ↓oC_of (c_10 q1 IBs _ hm)]
    exact AnC_tell (FC_FB q2) _
theorem m_283 (r : RM g s) (hi : Iv N s) (hN : N < 800000) : AnM g (qWound s) (MI X (d + 6) 283 [.inr (.inr 143)] S0 (ov g)) := by
  rw [e_283]
  simp only [↓K_mod, ↓oC_of (m_268 r), ↓if_b2i]
  unfold qWound
  by_cases hd : s 6 = -1
  · rw [if_pos hd, if_neg (fun z => z hd)]
    exact AnM_no (FN_rf g) 6
  · rw [if_pos hd, if_neg hd]
    simp only [↓K_mod, ↓oC_of (m_276 r hi hd)]
    exact AnM_tell (FN_rf g) _
theorem c_157 (r : RD g 19 s) (hi : Iv N s) (hN : N < 800000) (n : Int) : AnC g (qValue s n) (MI X (d + 12) 157 [.inr (.inr 1), .inl n] S0 (ov g)) := by
  rw [e_157]
  unfold qValue
  by_cases h1 : n < 0
  · rw [if_pos h1, if_pos (Or.inl h1)]
    simp only [↓K_top, ↓G_top, ↓P_top]
    exact AnC_no (FC_rf g) 1
  by_cases h2 : 7 < n
  · rw [if_neg h1, if_pos h2, if_pos (Or.inr h2)]
    simp only [↓K_top, ↓G_top, ↓P_top]
    exact AnC_no (FC_rf g) 1
  rw [if_neg h1, if_neg h2, if_neg (by omega)]
  simp only [↓K_top, ↓G_top, ↓P_top, ↓K_daw isD19, ↓oC_of (c_40 isD19 r), ↓if_b2i, ↓K_bou]
  by_cases hd : s 6 = -1
  · rw [if_pos hd, if_neg (fun z => z hd)]
    exact AnC_no (FC_rf g) 6
  · rw [if_pos hd, if_neg hd]
    refine Ok_bind (c_2 isD19 r hi hd) ?_
    rintro v g2 ⟨q1, q2⟩
    have IBs := IB_N hi (by omega) hd
    have h6 : boN s 6 < 800001 := by
      have := (hi.2.2.2.2.2.2.2.2.2.2.2.2.2.2.2.2.2.2 hd)
      simp only [bo_all]
      omega
    obtain ⟨k, rfl⟩ : ∃ k : Nat, n = k := ⟨n.toNat, by omega⟩
    have c82 := c_82 (X := X) (d := d + 7 - k) k (boN s) g2 (-1000) 1000 q1 IBs (by omega) (by omega) (by omega) (by omega)
    rw [show d + 7 - k + k + 3 = d + 10 by omega] at c82
    simp only [↓K_top, ↓G_top, ↓P_top]
    rw [e_80]
    obtain ⟨w, g3, e3, p1, p2, p3⟩ := c82
    rw [oC_of e3, oC_some]
    simp only [↓K_top, ↓G_top, ↓P_top]
    have vr := vaV_in k IBs (by omega)
    have : w = vaB lfV 0 k (boN s) := by unfold Pab at p1; omega
    rw [this, Int.toNat_natCast]
    exact AnC_tell (FC_tr (FC_FB q2) (FC_FB p3)) _
end
