/-! fair of the model -/
def Rf (g : Mem) (c : Int) : Prop := rd g 155 0 = (if c = -1 then 1000000 else c / 64) ∧ (c ≠ -1 → rd g 155 1 = c / 8 % 8 ∧ rd g 155 2 = c % 8)
theorem FN_155 (g : Mem) {i : Int} (x : Int) (h : 0 ≤ i) : FN g (wr g 155 i x) := fun c j a b e f => rd_wr_ne g i j x (by omega) a (by unfold ScM at e; omega)
section
variable {X : Xs} {d : Nat} {g : Mem} {s : Int → Int} {N : Int}
theorem Rf_3 (g : Mem) (a x y c : Int) (a0 : 0 ≤ a) (x0 : 0 ≤ x) (x1 : x < 8) (y0 : 0 ≤ y) (y1 : y < 8) (hc : c = a * 64 + x * 8 + y) : Rf (wr (wr (wr g 155 0 a) 155 1 x) 155 2 y) c := by
  unfold Rf
  rw [if_neg (by omega)]
  simp (disch := omega) only [rd_wr_eq, rd_wr_ix]
  omega
theorem m_306_i (hi : Iv N s) (m o x n1 : Int) (h1 : 0 ≤ m) (h2 : m < s 1) (h3 : 0 ≤ o) (h4 : o < s 1) (x0 : 0 ≤ x) (x1 : x < s 0) (n0 : -1 ≤ n1) (n60 : n1 ≤ 60) (P : Option Rs → Prop) : ∀ (k : Nat) (y c : Int) (g1 : Mem), y + k = s 0 → 0 ≤ y → frB (x * 8 + y) c → RM g1 s → FN g g1 → Rf g1 c → (∀ g2, RM g2 s → FN g g2 → Rf g2 (if n1 = -1 then c else frI (ndN s o m) n1 x k y c) → P (EI X (d + 4) 306 11 [some (.inr (.inr 143)), some (.inl m), some (.inl o), some (.inl (x + 1)), none, none, none, none] [] S0 (ov g2))) → P (EI X (d + 4) 306 33 [some (.inr (.inr 143)), some (.inl m), some (.inl o), some (.inl x), some (.inl (orF n1)), some (.inl y), none, none] [] S0 (ov g1)) := by
  have i1 := hi.2.1
  intro k
  induction k with
  | zero =>
    intro y c g1 hk y0 hc r f rf H
    have a0 : rd g1 144 0 = s 0 := r 0 (by omega) (by omega)
    rw [e_306_33]
    simp (disch := omega) only [↓K_mod, ↓G_mod, ↓al_144 _, a0]
    rw [if_neg (show ¬ y < s 0 by omega), w32_id (by omega) (by omega)]
    refine H g1 r f ?_
    split
    · exact rf
    · exact rf
  | succ k ih =>
    intro y c g1 hk y0 hc r f rf H
    have a0 : rd g1 144 0 = s 0 := r 0 (by omega) (by omega)
    have n2 := ndN_r hi (m := o) (o := m) h1 h2 y
    have q := m_300 (X := X) (d := d) r hi o m y h3 h4 h1 h2 (by omega) (by omega)
    rw [show asM y = y from if_neg (by omega)] at q
    rw [e_306_33]
    simp (disch := omega) only [↓K_mod, ↓G_mod, ↓al_144 _, a0]
    rw [if_pos (show y < s 0 by omega), oC_of q, w32_id (x := y + 1) (by omega) (by omega)]
    -- nothing changes
    have same : (n1 ≠ -1 → frU (ndN s o m y) n1 x y c = c) → P (EI X (d + 4) 306 33 [some (.inr (.inr 143)), some (.inl m), some (.inl o), some (.inl x), some (.inl (orF n1)), some (.inl (y + 1)), none, none] [] S0 (ov g1)) := fun e => by
      refine ih (y + 1) c g1 (by omega) (by omega) (by omega) r f rf (fun g2 r2 f2 q2 => H g2 r2 f2 ?_)
      by_cases z : n1 = -1
      · rw [if_pos z] at q2 ⊢; exact q2
      · rw [if_neg z] at q2 ⊢
        rw [frI_s, e z]
        exact q2
    by_cases e1 : y = x
    · have e1' : x = y := e1.symm
      have sm := same (fun _ => by unfold frU; rw [if_pos (Or.inl e1)])
      rw [if_pos e1', if_pos e1', ite_self]
      exact sm
    have e1' : ¬ x = y := fun z => e1 z.symm
    rw [if_neg e1', if_neg e1']
    by_cases z1 : n1 = -1
    · have sm := same (fun z => absurd z1 z)
      have z2 : ¬ orF n1 < 1000000 := by unfold orF; rw [if_pos z1]; omega
      rw [if_neg z2, if_neg z2, ite_self]
      exact sm
    have o1 : orF n1 = n1 := if_neg z1
    have z2 : orF n1 < 1000000 := by omega
    rw [if_pos z2, if_pos z2]
    by_cases e2 : ndN s o m y = -1
    · have sm := same (fun _ => by unfold frU; rw [if_pos (Or.inr e2)])
      have z3 : ¬ orF (ndN s o m y) < 1000000 := by unfold orF; rw [if_pos e2]; omega
      rw [if_neg z3, if_neg z3, ite_self]
      exact sm
    have o2 : orF (ndN s o m y) = ndN s o m y := if_neg e2
    have z3 : orF (ndN s o m y) < 1000000 := by omega
    have e3 : ¬ (y = x ∨ ndN s o m y = -1) := by omega
    rw [if_pos z3, if_pos z3, o1, o2, w32_id (x := ndN s o m y - n1) (by omega) (by omega), w32_id (x := n1 - ndN s o m y) (by omega) (by omega)]
    rw [o1] at ih same
    obtain ⟨f0, f1⟩ := id rf
    -- the one of the difference v
    have go : ∀ v : Int, v = (if n1 < ndN s o m y then ndN s o m y - n1 else n1 - ndN s o m y) → P (oK (getf S0 (ov g1) 11 143 27) none fun x12 => oK (aldI X S0 (ov g1) x12 0) none fun x13 => if v < x13 then oK (getf S0 (ov g1) 11 143 27) none fun x14 => oK (ast S0 (ov g1) 20 x14 0 v) none fun h15 => oK (getf S0 h15 11 143 27) none fun x16 => oK (ast S0 h15 20 x16 1 x) none fun h17 => oK (getf S0 h17 11 143 27) none fun x18 => oK (ast S0 h17 20 x18 2 y) none fun h19 => EI X (d + 4) 306 33 [some (.inr (.inr 143)), some (.inl m), some (.inl o), some (.inl x), some (.inl n1), some (.inl (y + 1)), none, none] [] S0 h19 else EI X (d + 4) 306 33 [some (.inr (.inr 143)), some (.inl m), some (.inl o), some (.inl x), some (.inl n1), some (.inl (y + 1)), none, none] [] S0 (ov g1)) := by
      intro v hv
      have v0 : 0 ≤ v ∧ v ≤ 60 := by rw [hv]; split <;> omega
      have fv : frV n1 (ndN s o m y) x y = v * 64 + x * 8 + y := by unfold frV; rw [← hv]
      simp (disch := omega) only [↓G_mod, ↓al_155 _, f0]
      by_cases lt : v < (if c = -1 then 1000000 else c / 64)
      · have e5 : frU (ndN s o m y) n1 x y c = v * 64 + x * 8 + y := by
          unfold frU am_min
          rw [if_neg e3, fv]
          by_cases e4 : c = -1
          · rw [if_pos e4]
          · rw [if_neg e4] at lt ⊢
            rw [if_neg (by omega)]
        rw [if_pos lt]
        simp (disch := omega) only [↓G_mod, ↓as_155]
        refine ih (y + 1) (v * 64 + x * 8 + y) _ (by omega) (by omega) (by omega) (RM_wo (RM_wo (RM_wo r _ _ (by omega) (by omega)) _ _ (by omega) (by omega)) _ _ (by omega) (by omega)) (FN_tr f (FN_tr (FN_155 _ _ (by omega)) (FN_tr (FN_155 _ _ (by omega)) (FN_155 _ _ (by omega))))) (Rf_3 _ _ _ _ _ v0.1 x0 (by omega) y0 (by omega) rfl) (fun g2 r2 f2 q2 => H g2 r2 f2 ?_)
        rw [if_neg z1] at q2 ⊢
        rw [frI_s, e5]
        exact q2
      · rw [if_neg lt]
        refine same (fun _ => ?_)
        unfold frU am_min
        by_cases e4 : c = -1
        · rw [if_pos e4] at lt; omega
        · rw [if_neg e4] at lt
          rw [if_neg e3, if_neg e4, fv]
          split <;> omega
    by_cases lt : ndN s o m y < n1
    · rw [if_pos lt]
      exact go _ (by rw [if_neg (by omega)])
    · rw [if_neg lt]
      exact go _ (by split <;> omega)
theorem m_306_o (hi : Iv N s) (m o : Int) (h1 : 0 ≤ m) (h2 : m < s 1) (h3 : 0 ≤ o) (h4 : o < s 1) : ∀ (k : Nat) (x c : Int) (g1 : Mem), x + k = s 0 → 0 ≤ x → frB (x * 8) c → RM g1 s → FN g g1 → Rf g1 c → Ok (fun v g' => RM g' s ∧ FN g g' ∧ Rf g' (frO (ndN s m o) (ndN s o m) (s 0).toNat k x c)) (EI X (d + 4) 306 11 [some (.inr (.inr 143)), some (.inl m), some (.inl o), some (.inl x), none, none, none, none] [] S0 (ov g1)) := by
  have i0 := hi.1
  have i1 := hi.2.1
  intro k
  induction k with
  | zero =>
    intro x c g1 hk x0 hc r f rf
    have a0 : rd g1 144 0 = s 0 := r 0 (by omega) (by omega)
    rw [e_306_11]
    simp (disch := omega) only [↓K_mod, ↓G_mod, ↓al_144 _, a0]
    rw [if_neg (show ¬ x < s 0 by omega)]
    exact Ok_some ⟨r, f, rf⟩
  | succ k ih =>
    intro x c g1 hk x0 hc r f rf
    have a0 : rd g1 144 0 = s 0 := r 0 (by omega) (by omega)
    have n1 := ndN_r hi (m := m) (o := o) h3 h4 x
    have q := m_300 (X := X) (d := d) r hi m o x h1 h2 h3 h4 (by omega) (by omega)
    rw [show asM x = x from if_neg (by omega)] at q
    rw [e_306_11]
    simp (disch := omega) only [↓K_mod, ↓G_mod, ↓al_144 _, a0]
    rw [if_pos (show x < s 0 by omega), oC_of q, frO_s]
    refine m_306_i hi m o x _ h1 h2 h3 h4 x0 (by omega) n1.1 n1.2 _ (s 0).toNat 0 c g1 (by omega) (by omega) (by omega) r f rf (fun g2 r2 f2 q2 => ?_)
    refine ih (x + 1) _ g2 (by omega) (by omega) ?_ r2 f2 q2
    split
    · omega
    · have z := frI_b (nd2 := ndN s o m) (n1 := ndN s m o x) (x := x) (by omega) n1.2 x0 (by omega) (fun y _ _ => ndN_r hi h1 h2 y) (s 0).toNat 0 c (by omega) (by omega) (by omega)
      omega
theorem m_307 (r : RM g s) (hi : Iv N s) (m o w : Int) : AnM g (qFair s m o w) (MI X (d + 5) 307 [.inr (.inr 143), .inl m, .inl o, .inl w] S0 (ov g)) := by
  have i0 := hi.1
  have i1 := hi.2.1
  rw [e_307]
  simp only [↓K_mod, ↓oC_of (m_248 r _ _), ↓if_b2i]
  unfold qFair
  by_cases ht : 0 ≤ m ∧ m < s 1 ∧ 0 ≤ o ∧ o < s 1 ∧ m ≠ o
  case neg =>
    rw [if_neg ht, if_neg (fun z => ht z.1)]
    exact AnM_no (FN_rf g) 1
  rw [if_pos ht]
  by_cases w1 : w < 0
  · rw [if_pos w1, if_neg (fun z => by omega)]
    exact AnM_no (FN_rf g) 1
  by_cases w2 : 2 < w
  · rw [if_neg w1, if_pos w2, if_neg (fun z => by omega)]
    exact AnM_no (FN_rf g) 1
  have hh : (0 ≤ m ∧ m < s 1 ∧ 0 ≤ o ∧ o < s 1 ∧ m ≠ o) ∧ (0 ≤ w ∧ w ≤ 2) := ⟨ht, by omega⟩
  rw [if_neg w1, if_neg w2, if_pos hh]
  obtain ⟨h1, h2, h3, h4, -⟩ := ht
  have bb := frC_b hi h1 h2 h3 h4
  have q : Ok (fun v g' => RM g' s ∧ FN g g' ∧ Rf g' (frC s m o)) (MI X (d + 4) 306 [.inr (.inr 143), .inl m, .inl o] S0 (ov g)) := by
    rw [e_306]
    simp (disch := omega) only [↓G_mod, ↓as_155]
    refine m_306_o (d := d) hi m o h1 h2 h3 h4 (s 0).toNat 0 (-1) _ (by omega) (by omega) (Or.inl rfl) (RM_wo r _ _ (by omega) (by omega)) (FN_155 _ _ (by omega)) ⟨?_, fun z => absurd rfl z⟩
    rw [rd_wr_eq, if_pos rfl]
  refine Ok_bind q ?_
  rintro v g2 ⟨r2, f2, d0, d1⟩
  simp (disch := omega) only [↓G_mod, ↓K_mod, ↓al_155 _, d0]
  by_cases e : frC s m o = -1
  · have k1 : (if frC s m o = -1 then (1000000 : Int) else frC s m o / 64) = 1000000 := if_pos e
    rw [if_pos e, if_pos k1]
    exact AnM_no f2 6
  have k2 : ¬ (if frC s m o = -1 then (1000000 : Int) else frC s m o / 64) = 1000000 := by rw [if_neg e]; omega
  rw [if_neg e, if_neg k2]
  obtain ⟨d2, d3⟩ := d1 e
  rw [if_neg e] at d0
  have dw : rd g2 155 w = (if w = 0 then frC s m o / 64 else if w = 1 then frC s m o / 8 % 8 else frC s m o % 8) := by
    by_cases a0 : w = 0
    · rw [if_pos a0, a0, d0]
    by_cases a1 : w = 1
    · rw [if_neg a0, if_pos a1, a1, d2]
    · rw [if_neg a0, if_neg a1, show w = 2 by omega, d3]
  rw [dw]
  exact AnM_tell f2 _
end
