/-! a DAWN told, the model: laid in use; both -/
section
variable {X : Xs} {d : Nat} {g : Mem} {t : Int → Int} {n q : Int} {s nm : Int → Int} {told : Int}
theorem m_240_90 {Q : Int → Mem → Prop} : ∀ (k : Nat) (i : Int) (g : Mem), i + k = 14 → 0 ≤ i → (∀ j, 0 ≤ j → j < i → rd g 145 j = rd g 145 (56 + j)) → (∀ g', (∀ j, 0 ≤ j → j < 14 → rd g' 145 j = rd g 145 (56 + j)) → (∀ c j, 0 ≤ c → 0 ≤ j → (c ≠ 145 ∨ 14 ≤ j) → rd g' c j = rd g c j) → Ok Q (A30 X d g')) → Ok Q (EI X (d + 11) 240 90 [some (.inr (.inr 143)), none, none, some (.inl i)] [] S0 (ov g)) := by
  intro k
  induction k with
  | zero =>
    intro i g hk i0 hz h
    have q1 := h g (fun j a b => hz j a (by omega)) (fun _ _ _ _ _ => rfl)
    rw [e_240_90, if_neg (by omega)]
    simp (disch := omega) only [↓G_mod, ↓al_144, ↓K_mod]
    exact q1
  | succ k ih =>
    intro i g hk i0 hz h
    rw [e_240_90, if_pos (by omega)]
    simp (disch := omega) only [↓G_mod, w32_id, ↓al_145, ↓as_145]
    refine ih (i + 1) (wr g 145 i (rd g 145 (56 + i))) (by omega) (by omega) (fun j a b => ?_) (fun g' x y => h g' (fun j a b => ?_) (fun c j a b e => ?_))
    · rw [rd_wr_if _ _ _ i0 a, rd_wr_ix _ _ i0 (by omega) (by omega)]
      by_cases z : j = i
      · rw [if_pos z, z]
      · rw [if_neg z]; exact hz j a (by omega)
    · rw [x j a b, rd_wr_ix _ _ i0 (by omega) (by omega)]
    · rw [y c j a b e]
      by_cases w : c = 145
      · subst w; exact rd_wr_ix _ _ i0 b (by omega)
      · exact rd_wr_ne _ _ _ _ (by omega) a w
theorem m_240_59 {Q : Int → Mem → Prop} : ∀ (k : Nat) (i : Int) (g : Mem), i + k = 472 → 0 ≤ i → (∀ j, 0 ≤ j → j < i → rd g 144 j = rd g 144 (1888 + j)) → (∀ g', (∀ j, 0 ≤ j → j < 472 → rd g' 144 j = rd g 144 (1888 + j)) → (∀ j, 0 ≤ j → j < 14 → rd g' 145 j = rd g 145 (56 + j)) → (∀ c j, 0 ≤ c → 0 ≤ j → (c ≠ 145 ∨ 14 ≤ j) → (c ≠ 144 ∨ 472 ≤ j) → rd g' c j = rd g c j) → Ok Q (A30 X d g')) → Ok Q (EI X (d + 11) 240 59 [some (.inr (.inr 143)), none, none, some (.inl i)] [] S0 (ov g)) := by
  intro k
  induction k with
  | zero =>
    intro i g hk i0 hz h
    rw [e_240_59, if_neg (by omega)]
    refine m_240_90 14 0 g (by omega) (by omega) (fun j a b => by omega) (fun g' x y => h g' (fun j a b => ?_) x (fun c j a b e _ => y c j a b e))
    rw [y _ _ (by omega) a (by omega)]
    exact hz j a (by omega)
  | succ k ih =>
    intro i g hk i0 hz h
    rw [e_240_59, if_pos (by omega)]
    simp (disch := omega) only [↓G_mod, w32_id, ↓al_144, ↓as_144]
    refine ih (i + 1) (wr g 144 i (rd g 144 (1888 + i))) (by omega) (by omega) (fun j a b => ?_) (fun g' x y z => h g' (fun j a b => ?_) (fun j a b => ?_) (fun c j a b e e2 => ?_))
    · rw [rd_wr_if _ _ _ i0 a, rd_wr_ix _ _ i0 (by omega) (by omega)]
      by_cases z : j = i
      · rw [if_pos z, z]
      · rw [if_neg z]; exact hz j a (by omega)
    · rw [x j a b, rd_wr_ix _ _ i0 (by omega) (by omega)]
    · rw [y j a b, rd_wr_ne _ _ _ _ (by omega) (by omega) (by omega)]
    · rw [z c j a b e e2]
      by_cases w : c = 144
      · subst w; exact rd_wr_ix _ _ i0 b (by omega)
      · exact rd_wr_ne _ _ _ _ (by omega) a w
theorem m_A30 (c : Int) (h : rd g 143 18 = c) : A30 X d g = some (if 0 < c then -1 else rd g 144 1, S0, ov (wr (wr g 143 16 c) 143 2 (if 0 < c then 9 else 0))) := by
  unfold A30
  rw [e_230]
  simp (disch := omega) only [↓G_mod, h, ↓P_mod, rd_wr_ix, ↓K_mod]
  by_cases z : 0 < c
  · rw [if_pos z, if_pos z, if_pos z, e_201]
    simp only [↓P_mod]
    rfl
  · rw [if_neg z, if_neg z, if_neg z, e_202]
    simp only [↓P_mod]
    rfl
def FQd (g g' : Mem) : Prop := ∀ c i, 0 ≤ c → 0 ≤ i → (c ≠ 143 ∨ (i ≠ 2 ∧ (i < 10 ∨ 20 < i))) → (c ≠ 144 ∨ (472 ≤ i ∧ i < 1888)) → (c ≠ 145 ∨ (14 ≤ i ∧ i < 56)) → c ≠ 150 → rd g' c i = rd g c i
def Qdm (g : Mem) (r : Rr ((Int → Int) × (Int → Int))) (v : Int) (g' : Mem) : Prop := FQd g g' ∧ rd g' 143 10 = 0 ∧ match r with
  | .inl (c, p) => v = -1 ∧ rd g' 143 2 = 9 ∧ rd g' 143 16 = c ∧ rd g' 143 17 = p ∧ (∀ i, 0 ≤ i → i < 472 → rd g' 144 i = rd g 144 i) ∧ (∀ i, 0 ≤ i → i < 14 → rd g' 145 i = rd g 145 i)
  | .inr (s, nm) => v = s 1 ∧ rd g' 143 2 = 0 ∧ rd g' 143 16 = 0 ∧ rd g' 143 17 = -1 ∧ (∀ i, 0 ≤ i → i < 104 → rd g' 144 i = s i) ∧ (∀ i, 0 ≤ i → i < s 0 → rd g' 145 i = nm i) ∧ (∀ i, 0 ≤ i → i < s 1 → rd g' 145 (8 + i) = nm (8 + i)) ∧ PU s
theorem m_240 (hr : txR t n) (l1 : n ≤ rd g 143 10) (h149 : ∀ j, 0 ≤ j → j < n → rd g 149 j = t j) : Ok (Qdm g (pDawn0 t n)) (MI X (d + 11) 240 [.inr (.inr 143), .inl n] S0 (ov g)) := by
  obtain ⟨n0, n9, -⟩ := id hr
  obtain ⟨v1, g1, e1, rfl, mg1, h17, h10, f1⟩ := m_222 (X := X) (d := d + 8) hr l1 n9 h149
  rw [e_240]
  simp only [↓K_mod, ↓oC_of e1]
  rw [if_neg (by omega)]
  obtain ⟨v2, g2, e2, z2, f2⟩ := m_196_l (X := X) (d := d + 10) 472 0 g1 (by omega) (by omega) (fun j a b => by omega)
  have e2' : MI X (d + 10) 196 [.inr (.inr 143), .inl 1888] S0 (ov g1) = some (v2, S0, ov g2) := by rw [e_196]; exact e2
  rw [oC_of e2']
  simp only [↓P_mod]
  have mg2 : Mg t n g2 (skP t n 0) := by
    obtain ⟨⟨a, b⟩, ⟨c1, c2, c3, c4, c5, c6⟩, e, e'⟩ := mg1
    have k : ∀ c i, 0 ≤ c → 0 ≤ i → c ≠ 144 → rd g2 c i = rd g1 c i := fun c i x y z => f2 c i x y (Or.inl z)
    refine ⟨⟨(k _ _ (by omega) (by omega) (by omega)).trans a, fun i x y => (k _ _ (by omega) x (by omega)).trans (b i x y)⟩, ⟨(k _ _ (by omega) (by omega) (by omega)).trans c1, (k _ _ (by omega) (by omega) (by omega)).trans c2, (k _ _ (by omega) (by omega) (by omega)).trans c3, fun z => (k _ _ (by omega) (by omega) (by omega)).trans (c4 z), c5, c6⟩, (k _ _ (by omega) (by omega) (by omega)).trans e, (k _ _ (by omega) (by omega) (by omega)).trans e'⟩
  have mg3 := Mg_w20 mg2 0
  have s00 : sD 0 = 0 := rfl
  have s01 : sD 1 = 0 := rfl
  have dm3 : DMs (wr g2 143 20 0) sD (fun _ => 0) := ⟨fun i a b => by rw [rd_wr_ne _ _ _ _ (by omega) (by omega) (by omega)]; exact z2 i a (by omega), fun i a b => by omega, fun i a b => by omega⟩
  have zr3 : Zr sD := fun j a b => by
    unfold sD
    rw [if_neg (by omega), if_neg (by omega), if_neg (by omega), if_neg (by omega), if_neg (by omega), if_neg (by omega)]
  have t3 : rd (wr g2 143 20 0) 143 20 = 0 := rd_wr_eq _ _ _ _
  have fq3 : FQd g (wr g2 143 20 0) := fun c i x y z w v u => by
    have e : rd (wr g2 143 20 0) c i = rd g2 c i := by
      by_cases h : c = 143
      · subst h; exact rd_wr_ix _ _ (by omega) y (by omega)
      · exact rd_wr_ne _ _ _ _ (by omega) x h
    rw [e, f2 c i x y (by omega)]
    exact f1 c i x y (by omega) u
  have k3 : ∀ c i, 0 ≤ c → 0 ≤ i → c ≠ 143 → (c ≠ 144 ∨ i < 1888) → c ≠ 150 → rd (wr g2 143 20 0) c i = rd g c i := fun c i x y z w u => by
    rw [rd_wr_ne _ _ _ _ (by omega) x z, f2 c i x y w]
    exact f1 c i x y (by omega) u
  have e10 : rd (wr g2 143 20 0) 143 10 = 0 := by
    rw [rd_wr_ix _ _ (by omega) (by omega) (by omega), f2 _ _ (by omega) (by omega) (by omega)]; exact h10
  generalize wr g2 143 20 0 = g3 at mg3 dm3 t3 fq3 k3 e10 ⊢
  have tb3 : TB (rd g3 143 20) 0 := by rw [t3]; exact ⟨by omega, by omega, by omega, by omega, fun _ _ _ => rfl⟩
  have sk := sk_b t (n := n) (p := 0) n0
  have wq : ∀ (g' : Mem) (c x : Int), FQd g g' → FQd g (wr (wr g' 143 16 c) 143 2 x) := fun g' c x h c' i a b e w v u => by
    rw [← h c' i a b e w v u]
    by_cases z : c' = 143
    · subst z
      rw [rd_wr_ix _ _ (by omega) b (by omega), rd_wr_ix _ _ (by omega) b (by omega)]
    · rw [rd_wr_ne _ _ _ _ (by omega) a z, rd_wr_ne _ _ _ _ (by omega) a z]
  have wn : ∀ (g' : Mem) (x y c i : Int), 0 ≤ c → 0 ≤ i → (c ≠ 143 ∨ (i ≠ 16 ∧ i ≠ 2)) → rd (wr (wr g' 143 16 x) 143 2 y) c i = rd g' c i := fun g' x y c i a b e => by
    by_cases z : c = 143
    · subst z
      rw [rd_wr_ix _ _ (by omega) b (by omega), rd_wr_ix _ _ (by omega) b (by omega)]
    · rw [rd_wr_ne _ _ _ _ (by omega) a z, rd_wr_ne _ _ _ _ (by omega) a z]
  refine m_240_l hr (P := Qdm g) (g0 := g3) (fun c p g' fd mf => ?_) (fun s nm g' fd dm pu h8 => ?_) (n + 1).toNat (skP t n 0) g3 sD (fun _ => 0) 0 (by omega) mg3 dm3 zr3 PU_D tb3 (fun _ _ _ _ _ _ _ => rfl)
  · obtain ⟨m1, m2, m3, m4⟩ := mf
    rw [m_A30 c m1, if_pos m3, if_pos m3]
    have fq' : FQd g g' := fun c i x y z w v u => (fd c i x y (by omega) (by omega) (by omega)).trans (fq3 c i x y z w v u)
    refine Ok_some ⟨wq g' _ _ fq', ?_, rfl, rd_wr_eq _ _ _ _, ?_, ?_, fun i a b => ?_, fun i a b => ?_⟩
    · rw [wn _ _ _ _ _ (by omega) (by omega) (by omega), fd _ _ (by omega) (by omega) (by omega) (by omega) (by omega)]; exact e10
    · rw [rd_wr_ix _ _ (by omega) (by omega) (by omega)]; exact rd_wr_eq _ _ _ _
    · rw [wn _ _ _ _ _ (by omega) (by omega) (by omega)]; exact m2
    · rw [wn _ _ _ _ _ (by omega) a (by omega), fd _ _ (by omega) a (by omega) (by omega) (by omega)]; exact k3 _ _ (by omega) a (by omega) (by omega) (by omega)
    · rw [wn _ _ _ _ _ (by omega) a (by omega), fd _ _ (by omega) a (by omega) (by omega) (by omega)]; exact k3 _ _ (by omega) a (by omega) (by omega) (by omega)
  · unfold A59
    refine m_240_59 472 0 g' (by omega) (by omega) (fun j a b => by omega) (fun g4 x y z => ?_)
    obtain ⟨i0, i1, i2, i3, -⟩ := id pu.1
    have e18 : rd g4 143 18 = 0 := (z _ _ (by omega) (by omega) (by omega) (by omega)).trans h8.1
    have fq' : FQd g g4 := fun c i x' y' z' w v u => by
      rw [z c i x' y' (by omega) (by omega), fd c i x' y' (by omega) (by omega) (by omega)]
      exact fq3 c i x' y' z' w v u
    have x1 : rd g4 144 1 = s 1 := (x 1 (by omega) (by omega)).trans (dm.1 1 (by omega) (by omega))
    rw [m_A30 0 e18, if_neg (by omega), if_neg (by omega)]
    refine Ok_some ⟨wq g4 _ _ fq', ?_, x1, rd_wr_eq _ _ _ _, ?_, ?_, fun i a b => ?_, fun i a b => ?_, fun i a b => ?_, pu⟩
    · rw [wn _ _ _ _ _ (by omega) (by omega) (by omega), z _ _ (by omega) (by omega) (by omega) (by omega), fd _ _ (by omega) (by omega) (by omega) (by omega) (by omega)]; exact e10
    · rw [rd_wr_ix _ _ (by omega) (by omega) (by omega)]; exact rd_wr_eq _ _ _ _
    · rw [wn _ _ _ _ _ (by omega) (by omega) (by omega), z _ _ (by omega) (by omega) (by omega) (by omega)]; exact h8.2
    · rw [wn _ _ _ _ _ (by omega) a (by omega), x i a (by omega)]; exact dm.1 i a b
    · rw [wn _ _ _ _ _ (by omega) a (by omega), y i a (by omega)]; exact dm.2.1 i a b
    · rw [wn _ _ _ _ _ (by omega) (by omega) (by omega), y (8 + i) (by omega) (by omega), show 56 + (8 + i) = 64 + i by omega]; exact dm.2.2 i a b
end
