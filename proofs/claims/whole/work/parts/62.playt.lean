/-! VALUE, MOVE, FORCED: asked of the model -/
/-- scratch of the model that play takes -/
def FQ (g g' : Mem) : Prop := ∀ c i, 0 ≤ c → 0 ≤ i → (c ≠ 144 ∨ i < 2832) → c ≠ 152 → c ≠ 153 → c ≠ 154 → rd g' c i = rd g c i
section
variable {X : Xs} {d : Nat} {g : Mem} {s : Int → Int} {N : Int}
theorem m_295_n (r : RM g s) (hi : Iv N s) (hN : N < 800000) (hd : s 6 ≠ -1) (fo : Int) (hfo : fo = 0 ∨ fo = 1) (n : Nat) (hn : n < 8) : Ok (fun v g' => v = vaB (lfX fo (s 10 % 2)) (if fo = 0 then 0 else s 10 % 2) (n + 1) (boN s) ∧ rd g' 154 0 = chF (decide (s 10 % 2 = if fo = 0 then 0 else s 10 % 2)) (fun a => decide (caB (boN s) a)) (fun a => vaB (lfX fo (s 10 % 2)) (if fo = 0 then 0 else s 10 % 2) n (plB (boN s) a)) 3 1 (vaB (lfX fo (s 10 % 2)) (if fo = 0 then 0 else s 10 % 2) n (plB (boN s) 0)) 0 ∧ RM g' s ∧ FQ g g') (MI X (d + 8) 295 [.inr (.inr 143), .inl ((n + 1 : Nat) : Int), .inl fo] S0 (ov g)) := by
  have rr : ∀ i, 0 ≤ i → i < 104 → rd g 144 i = s i := r
  obtain ⟨i0, i1, i2, i3, j2, j3, j4, j5, j6, j7, j8, j9, it, im, iw, ia, ih, i6, iu⟩ := id hi
  obtain ⟨u0, u1, u2, u3, u4, u5, u6, u7, u8, u9, u10, u11⟩ := iu hd
  clear it im iw ia ih iu
  have hm : s 10 % 2 = 0 ∨ s 10 % 2 = 1 := by omega
  have q270 := m_270 (X := X) (d := d + 7) r u10
  obtain ⟨v2, g2, e2, q2a, q2b⟩ := m_291 (X := X) (d := d + 7) g 2832 (by omega) (by omega)
  have head : ∀ shift : Int, (shift = 0 ∨ shift = 1) → (∀ L, 0 ≤ L → ((L + shift) % 2 = 0 ↔ (s 10 + L) % 2 = if fo = 0 then 0 else s 10 % 2)) → Ok (fun v g' => v = vaB (lfX fo (s 10 % 2)) (if fo = 0 then 0 else s 10 % 2) (n + 1) (boN s) ∧ rd g' 154 0 = chF (decide (s 10 % 2 = if fo = 0 then 0 else s 10 % 2)) (fun a => decide (caB (boN s) a)) (fun a => vaB (lfX fo (s 10 % 2)) (if fo = 0 then 0 else s 10 % 2) n (plB (boN s) a)) 3 1 (vaB (lfX fo (s 10 % 2)) (if fo = 0 then 0 else s 10 % 2) n (plB (boN s) 0)) 0 ∧ RM g' s ∧ FQ g g') (plH X d ((n + 1 : Nat) : Int) fo (s 6) (s 7) (if s 10 % 2 = 0 then s 7 else s 6) shift 0 (wr (wr g2 152 0 (-1)) 154 0 (-1))) := by
    intro shift hsh hpar
    have E := pl_enter (X := X) (d := d) (turns := ((n + 1 : Nat) : Int)) (fo := fo) (f0 := s 6) (s0 := s 7) (prey := if s 10 % 2 = 0 then s 7 else s 6) (shift := shift) (side := s 10 % 2) (par := if fo = 0 then 0 else s 10 % 2) (T0 := s 10) hfo u0 (by omega) u2 (by omega) hm rfl hsh (by omega) hpar n
    have sv : SV (wr (wr g2 152 0 (-1)) 154 0 (-1)) 0 s := fun i a b => by
      rw [rd_wr_ne _ _ _ _ (by omega) (by omega) (by omega), rd_wr_ne _ _ _ _ (by omega) (by omega) (by omega), show (2832 : Int) + 104 * 0 + i = 2832 + i by omega, q2a i a b]
      exact rr i a b
    obtain ⟨g3, e3, w1, w2, w3, w4, w5⟩ := E 0 s N _ (Int.le_refl 0) (by omega) sv hi (by omega) hd rfl rfl (by omega) (by rw [rd_wr_ne _ _ _ _ (by omega) (by omega) (by omega), rd_wr_eq]) (by rw [rd_wr_eq])
    rw [e3]
    unfold plH
    obtain ⟨v4, g4, e4, q4a, q4b⟩ := m_292 (X := X) (d := d + 7) g3 (2832 + 104 * 0) (by omega) (by omega)
    rw [e_295_101, oC_of (m_293 0 (by omega) (by omega) _ _), K_mod, oC_of e4]
    rw [(G_mod g4 _ _).2.2.2.2.2.2.2.2.2.2.2.2.2.2.2.2.2.2.2.2.2.2.2.2.1]
    rw [al_152 X g4 (by omega) (by omega), q4b 152 0 (by omega) (by omega) (by omega), w1, show w32 (3 + 1) = 4 from rfl, as_152 g4 4 (by omega) (by omega)]
    rw [(G_mod (wr g4 152 0 4) _ _).2.2.2.2.2.2.2.2.2.2.2.2.2.2.2.2.2.2.2.2.2.2.2.2.1]
    rw [al_152 X _ (by omega) (by omega), rd_wr_eq, if_pos rfl, if_pos rfl, oC_of (m_293 0 (by omega) (by omega) _ _), K_mod]
    obtain ⟨v5, g5, e5, q5a, q5b⟩ := m_292 (X := X) (d := d + 7) (wr g4 152 0 4) (2832 + 104 * 0) (by omega) (by omega)
    rw [oC_of e5]
    rw [(G_mod g5 _ _).2.2.2.2.2.2.2.2.2.2.2.2.2.2.2.2.2.2.2.2.2.2.2.2.2.1]
    have fr : ∀ c i, 0 ≤ c → 0 ≤ i → (c ≠ 144 ∨ 104 ≤ i) → c ≠ 152 → rd g5 c i = rd g3 c i := fun c i a b h h2 => by
      rw [q5b c i a b h, rd_wr_ne _ _ _ _ (by omega) a h2, q4b c i a b h]
    rw [al_153 X _ (by omega) (by omega), fr 153 0 (by omega) (by omega) (by omega) (by omega), w2]
    have r5 : RM g5 s := fun i a b => by
      rw [q5a i a b, rd_wr_ne _ _ _ _ (by omega) (by omega) (by omega), q4b 144 _ (by omega) (by omega) (by omega)]
      exact w4 i a b
    refine Ok_some ⟨rfl, ?_, r5, ?_⟩
    · rw [fr 154 0 (by omega) (by omega) (by omega) (by omega), w3]
    · intro c i a b h1 h2 h3 h4
      by_cases e : c = 144 ∧ i < 104
      · obtain ⟨rfl, e⟩ := e
        rw [r5 i b e, rr i b e]
      · rw [fr c i a b (by omega) h2, w5 c i a b (by omega) (by omega), rd_wr_ne _ _ _ _ (by omega) a h4, rd_wr_ne _ _ _ _ (by omega) a h2, q2b c i a b (by omega)]
  have a7 : rd g 144 (7 - s 10 % 2) = if s 10 % 2 = 0 then s 7 else s 6 := by
    rcases hm with e | e <;> rw [e] <;> simp only [Int.sub_zero, Int.reduceSub, Int.reduceEq, ↓reduceIte] <;> exact rr _ (by omega) (by omega)
  have hn0 : ¬ ((n + 1 : Nat) : Int) = 0 := by omega
  rw [e_295]
  have G0 := fun (h : Mem) (f : Int → Option Rs) => (G_mod h (none : Option Rs) f).1
  have G24 := fun (h : Mem) (f : Int → Option Rs) => (G_mod h (none : Option Rs) f).2.2.2.2.2.2.2.2.2.2.2.2.2.2.2.2.2.2.2.2.2.2.2.2.1
  have G26 := fun (h : Mem) (f : Int → Option Rs) => (G_mod h (none : Option Rs) f).2.2.2.2.2.2.2.2.2.2.2.2.2.2.2.2.2.2.2.2.2.2.2.2.2.2.1
  rw [G0, al_144 X _ (by omega) (by omega), G0, al_144 X _ (by omega) (by omega), G0, K_mod, oC_of q270, w32_id (x := 7 - s 10 % 2) (by omega) (by omega), al_144 X _ (by omega) (by omega), a7, rr 6 (by omega) (by omega), rr 7 (by omega) (by omega)]
  have e293 : MI X (d + 7) 293 [.inl 0] S0 (ov g) = some (2832, S0, ov g) := by rw [m_293 0 (by omega) (by omega)]; rfl
  rcases hfo with rfl | rfl
  · rw [if_pos rfl, K_mod, oC_of q270]
    rcases hm with e | e
    · rw [show ∀ (x y : Option Rs), (if s 10 % 2 = 0 then x else y) = x from fun _ _ => if_pos e, oC_of e293, K_mod, oC_of e2, G24, as_152 _ _ (by omega) (by omega), G26, as_154 _ _ (by omega) (by omega), if_neg hn0]
      exact head 0 (Or.inl rfl) (fun L hL => by simp only [↓reduceIte]; omega)
    · rw [show ∀ (x y : Option Rs), (if s 10 % 2 = 0 then x else y) = y from fun _ _ => if_neg (by omega), oC_of e293, K_mod, oC_of e2, G24, as_152 _ _ (by omega) (by omega), G26, as_154 _ _ (by omega) (by omega), if_neg hn0]
      exact head 1 (Or.inr rfl) (fun L hL => by simp only [↓reduceIte]; omega)
  · rw [if_neg (by decide), oC_of e293, K_mod, oC_of e2, G24, as_152 _ _ (by omega) (by omega), G26, as_154 _ _ (by omega) (by omega), if_neg hn0]
    exact head 0 (Or.inl rfl) (fun L hL => by simp only [Int.reduceEq, ↓reduceIte]; omega)
theorem m_295_0 (r : RM g s) (hi : Iv N s) (hd : s 6 ≠ -1) : Ok (fun v g' => v = vaB lfV 0 0 (boN s) ∧ RM g' s ∧ FQ g g') (MI X (d + 8) 295 [.inr (.inr 143), .inl 0, .inl 0] S0 (ov g)) := by
  have rr : ∀ i, 0 ≤ i → i < 104 → rd g 144 i = s i := r
  obtain ⟨i0, i1, i2, i3, j2, j3, j4, j5, j6, j7, j8, j9, it, im, iw, ia, ih, i6, iu⟩ := id hi
  obtain ⟨u0, u1, u2, u3, u4, u5, u6, u7, u8, u9, u10, u11⟩ := iu hd
  obtain ⟨-, -, l0, l1, -, l2, -, -⟩ := im (s 6) u0 u1
  obtain ⟨-, -, k0, k1, -, k2, -, -⟩ := im (s 7) u2 u3
  clear it im iw ia ih iu
  have q270 := m_270 (X := X) (d := d + 7) r u10
  have hm : s 10 % 2 = 0 ∨ s 10 % 2 = 1 := by omega
  obtain ⟨v2, g2, e2, q2a, q2b⟩ := m_291 (X := X) (d := d + 7) g 2832 (by omega) (by omega)
  have r3 : RM (wr (wr g2 152 0 (-1)) 154 0 (-1)) s := RM_wo (RM_wo (fun i a b => by rw [q2b 144 i (by omega) a (by omega)]; exact r i a b) _ _ (by omega) (by omega)) _ _ (by omega) (by omega)
  have f3 : FQ g (wr (wr g2 152 0 (-1)) 154 0 (-1)) := fun c i a b h1 h2 h3 h4 => by
    rw [rd_wr_ne _ _ _ _ (by omega) a h4, rd_wr_ne _ _ _ _ (by omega) a h2, q2b c i a b (by omega)]
  have G0 := fun (h : Mem) (f : Int → Option Rs) => (G_mod h (none : Option Rs) f).1
  have G24 := fun (h : Mem) (f : Int → Option Rs) => (G_mod h (none : Option Rs) f).2.2.2.2.2.2.2.2.2.2.2.2.2.2.2.2.2.2.2.2.2.2.2.2.1
  have G26 := fun (h : Mem) (f : Int → Option Rs) => (G_mod h (none : Option Rs) f).2.2.2.2.2.2.2.2.2.2.2.2.2.2.2.2.2.2.2.2.2.2.2.2.2.2.1
  have e293 : MI X (d + 7) 293 [.inl 0] S0 (ov g) = some (2832, S0, ov g) := by rw [m_293 0 (by omega) (by omega)]; rfl
  have s6 := m_252 (X := X) (d := d + 6) r3 (s 6) 1 u0 (by omega) (by omega) (by omega)
  have s7 := m_252 (X := X) (d := d + 6) r3 (s 7) 1 u2 (by omega) (by omega) (by omega)
  rw [e_295]
  rw [G0, al_144 X _ (by omega) (by omega), G0, al_144 X _ (by omega) (by omega), G0, K_mod, oC_of q270, w32_id (x := 7 - s 10 % 2) (by omega) (by omega), al_144 X _ (by omega) (by omega), rr 6 (by omega) (by omega), rr 7 (by omega) (by omega)]
  rw [if_pos rfl, K_mod, oC_of q270]
  rcases hm with e | e
  · rw [show ∀ (x y : Option Rs), (if s 10 % 2 = 0 then x else y) = x from fun _ _ => if_pos e, oC_of e293, K_mod, oC_of e2, G24, as_152 _ _ (by omega) (by omega), G26, as_154 _ _ (by omega) (by omega), if_pos rfl, if_pos rfl, K_mod, oC_of s6, K_mod, oC_of s7, w32_id (by omega) (by omega)]
    exact Ok_some ⟨rfl, r3, f3⟩
  · rw [show ∀ (x y : Option Rs), (if s 10 % 2 = 0 then x else y) = y from fun _ _ => if_neg (by omega), oC_of e293, K_mod, oC_of e2, G24, as_152 _ _ (by omega) (by omega), G26, as_154 _ _ (by omega) (by omega), if_pos rfl, if_pos rfl, K_mod, oC_of s6, K_mod, oC_of s7, w32_id (by omega) (by omega)]
    exact Ok_some ⟨rfl, r3, f3⟩
end
