/-! a DAWN told, the class: clear, takes -/
def sD : Int → Int := fun j => if j = 2 then 6 else if j = 4 then 2 else if j = 5 then 2 else if j = 6 then -1 else if j = 7 then -1 else if j = 11 then -1 else 0
theorem PU_D : PU sD := by
  have z : ∀ m o, 0 ≤ m → 0 ≤ o → o < 6 → mn sD m (4 + o) = 0 := fun m o a b c => by
    unfold mn sD
    simp (disch := omega) only [if_neg]
  have e0 : sD 0 = 0 := rfl
  have e1 : sD 1 = 0 := rfl
  have e2 : sD 2 = 6 := rfl
  have e3 : sD 3 = 0 := rfl
  have e4 : sD 4 = 2 := rfl
  have e5 : sD 5 = 2 := rfl
  have e6 : sD 6 = -1 := rfl
  refine ⟨?_, rfl, rfl, z⟩
  unfold Iv
  rw [aw_0 z (by omega), e0, e1, e2, e3, e4, e5, e6]
  refine ⟨by omega, by omega, by omega, by omega, by omega, by omega, by omega, by omega, by omega, by omega, by omega, by omega, fun i a b => by omega, fun i a b => by omega, fun i o a b c e => by omega, by omega, fun i o a b c e => by omega, by omega, fun x => absurd rfl x⟩
def dfG (g : Mem) (b : Int) : Mem := wr (wr (wr (wr g (b + 1) 0 6) (b + 1) 1 0) (b + 1) 2 2) (b + 1) 3 2
theorem acp_df0 (X : Xs) (g : Mem) (q : Int) (hk : kd S0 q = 20) (hl : ln S0 q = 4) (rn : ∀ j, rT q.toNat j = none) : acp X S0 (ov g) (-5) 0 q 0 4 = some (ov (wr (wr (wr (wr g q 0 6) q 1 0) q 2 2) q 3 2)) := by
  unfold acp
  rw [if_pos rfl, if_pos ⟨hk, by decide, by decide, by decide, by decide, by rw [hl]; decide⟩]
  congr 1
  unfold wr
  rw [← up_ov _ _ (rn _), ← up_ov _ _ (rn _), ← up_ov _ _ (rn _), ← up_ov _ _ (rn _)]
  funext a j
  unfold cpy up am_ro
  generalize q.toNat = z
  by_cases h : a = z ∧ j < 4
  · obtain ⟨rfl, hj⟩ := h
    have hc : j = 0 ∨ j = 1 ∨ j = 2 ∨ j = 3 := by omega
    rcases hc with rfl | rfl | rfl | rfl <;> simp
  · rw [if_neg (fun y => h ⟨y.1, by have := y.2.2; simp at this; omega⟩), if_neg (fun y => h ⟨y.1, by have := y.2; simp at this; omega⟩), if_neg (fun y => h ⟨y.1, by have := y.2; simp at this; omega⟩), if_neg (fun y => h ⟨y.1, by have := y.2; simp at this; omega⟩), if_neg (fun y => h ⟨y.1, by have := y.2; simp at this; omega⟩)]
theorem acp_df (X : Xs) (g : Mem) {b : Int} (hb : isD b) {A : Type} (x : A) (f : Mem → A) : oK (acp X S0 (ov g) (-5) 0 (b + 1) 0 4) x f = f (ov (dfG g b)) := by
  rcases hb with rfl | rfl | rfl | rfl | rfl
  · exact congrArg (fun o => oK o x f) (acp_df0 X g (19 + 1) rfl rfl (fun _ => rfl))
  · exact congrArg (fun o => oK o x f) (acp_df0 X g (40 + 1) rfl rfl (fun _ => rfl))
  · exact congrArg (fun o => oK o x f) (acp_df0 X g (62 + 1) rfl rfl (fun _ => rfl))
  · exact congrArg (fun o => oK o x f) (acp_df0 X g (83 + 1) rfl rfl (fun _ => rfl))
  · exact congrArg (fun o => oK o x f) (acp_df0 X g (104 + 1) rfl rfl (fun _ => rfl))
theorem aln_D10 (X : Xs) {b : Int} (hb : isD b) {A : Type} (x : A) (f : Int → A) : oK (aln X S0 (b + 10)) x f = f 36 := by
  rcases hb with rfl | rfl | rfl | rfl | rfl <;> rfl
section
variable {X : Xs} {d : Nat} {g : Mem} {t : Int → Int} {n q b N : Int} {s nm : Int → Int} {told : Int}
theorem c_18_l (hb : isD b) : ∀ (k : Nat) (i : Int) (g : Mem), i + k = 36 → 0 ≤ i → (∀ j, 0 ≤ j → j < i → rd g (b + 10) j = 0) → Ok (fun _ g' => (∀ j, 0 ≤ j → j < 36 → rd g' (b + 10) j = 0) ∧ rd g' b 14 = -1 ∧ rd g' (b + 13) 0 = 0 ∧ rd g' (b + 13) 1 = 0 ∧ (∀ c i, 0 ≤ c → 0 ≤ i → (c ≠ b ∨ i < 14) → c ≠ b + 10 → c ≠ b + 13 → rd g' c i = rd g c i)) (EI X (d + 1) 18 25 [some (.inr (.inr b)), some (.inl i)] [] S0 (ov g)) := by
  have hb2 := isD_rng hb
  have u : unV 3 (.inl 0) = some 0 := rfl
  intro k
  induction k with
  | zero =>
    intro i g hk i0 hz
    rw [e_18_25]
    simp (disch := omega) only [↓G_daw hb, ↓aln_D10 X hb, ↓if_neg, ↓K_daw hb, ↓oC_of (c_43 hb), ↓K_yrs hb]
    rw [oC_of (show MI X d 114 [.inr (.inr (b + 13))] S0 (ov (wr (wr (wr (wr (wr g b 14 (-1)) b 15 (-1)) b 16 0) b 17 0) b 18 0)) = some (0, S0, ov (wr (wr (wr (wr (wr (wr (wr g b 14 (-1)) b 15 (-1)) b 16 0) b 17 0) b 18 0) (b + 13) 0 0) (b + 13) 1 0)) by
      rw [e_114]
      simp only [u, ↓oK_some, ↓P_yrs hb])]
    refine Ok_some ⟨fun j a c => ?_, ?_, ?_, rd_wr_eq _ _ _ _, fun c i a e h1 h2 h3 => ?_⟩
    · simp (disch := omega) only [rd_wr_ne]; exact hz j a (by omega)
    · simp (disch := omega) only [rd_wr_ne, rd_wr_ix, rd_wr_eq]
    · simp (disch := omega) only [rd_wr_ix, rd_wr_eq]
    · have e : ∀ (h : Mem) (j x : Int), 14 ≤ j → rd (wr h b j x) c i = rd h c i := fun h j x y => by
        by_cases z : c = b
        · subst z; exact rd_wr_ix _ _ (by omega) e (by omega)
        · exact rd_wr_ne _ _ _ _ (by omega) a z
      rw [rd_wr_ne _ _ _ _ (by omega) a h3, rd_wr_ne _ _ _ _ (by omega) a h3, e _ _ _ (by omega), e _ _ _ (by omega), e _ _ _ (by omega), e _ _ _ (by omega), e _ _ _ (by omega)]
  | succ k ih =>
    intro i g hk i0 hz
    rw [e_18_25]
    simp (disch := omega) only [↓G_daw hb, ↓aln_D10 X hb, ↓if_pos, ↓as_D10 hb, w32_id]
    refine Ok_mono (ih (i + 1) (wr g (b + 10) i 0) (by omega) (by omega) (fun j a c => ?_)) ?_
    · by_cases z : j = i
      · rw [z]; exact rd_wr_eq _ _ _ _
      · rw [rd_wr_ix _ _ (by omega) a z]; exact hz j a (by omega)
    · rintro v g' ⟨a, c, e, f, h⟩
      exact ⟨a, c, e, f, fun c i x y z1 z2 z3 => (h c i x y z1 z2 z3).trans (rd_wr_ne _ _ _ _ (by omega) x z2)⟩
theorem c_18 (hb : isD b) : Ok (fun _ g' => DC b g' sD (fun _ => 0) ∧ rd g' (b + 13) 0 = 0 ∧ rd g' (b + 13) 1 = 0 ∧ (∀ c i, 0 ≤ c → 0 ≤ i → (c < b ∨ b + 13 < c) → rd g' c i = rd g c i)) (MI X (d + 1) 18 [.inr (.inr b)] S0 (ov g)) := by
  have hb2 := isD_rng hb
  rw [e_18]
  simp (disch := omega) only [↓P_daw hb, ↓G_daw hb, ↓acp_df X _ hb]
  refine Ok_mono (c_18_l hb 36 0 _ (by omega) (by omega) (fun j a c => by omega)) ?_
  rintro v g' ⟨a, c, e, f, h⟩
  have h0 : rd g' b 0 = 0 := by
    rw [h _ _ (by omega) (by omega) (by omega) (by omega) (by omega)]
    unfold dfG; simp (disch := omega) only [rd_wr_ne, rd_wr_ix, rd_wr_eq]
  have h1 : rd g' b 1 = 0 := by
    rw [h _ _ (by omega) (by omega) (by omega) (by omega) (by omega)]
    unfold dfG; simp (disch := omega) only [rd_wr_ne, rd_wr_eq]
  have r : ∀ i, 0 ≤ i → i < 4 → rd g' (b + 1) i = sD (2 + i) := fun i x y => by
    rw [h _ _ (by omega) x (by omega) (by omega) (by omega)]
    unfold dfG
    have hc : i = 0 ∨ i = 1 ∨ i = 2 ∨ i = 3 := by omega
    rcases hc with rfl | rfl | rfl | rfl <;> simp (disch := omega) only [rd_wr_ix, rd_wr_eq] <;> rfl
  refine ⟨⟨⟨h0, h1, r, fun i x y => ?_, fun i x y => ?_, fun i o x y => ?_, c, fun z => absurd rfl z⟩, a, fun i x y => ?_, fun i x y => ?_⟩, e, f, fun c' i x y z => ?_⟩
  · have : sD 0 = 0 := rfl
    omega
  · have : sD 1 = 0 := rfl
    omega
  · have : sD 1 = 0 := rfl
    omega
  · have : sD 0 = 0 := rfl
    omega
  · have : sD 1 = 0 := rfl
    omega
  · rw [h _ _ x y (by omega) (by omega) (by omega)]
    unfold dfG
    simp (disch := omega) only [rd_wr_ne]
/-- the frame of a DAWN told -/
def Fde (b : Int) (g g' : Mem) : Prop := ∀ c i, 0 ≤ c → 0 ≤ i → (c < 11 ∨ 14 < c) → c ≠ 16 → (c < b ∨ b + 13 < c) → rd g' c i = rd g c i
def Qdc (b : Int) (g : Mem) (r : Rr ((Int → Int) × (Int → Int))) (v : Int) (g' : Mem) : Prop := Fde b g g' ∧ match r with
  | .inl (c, p) => v = 0 ∧ Cf g' c p
  | .inr (s, nm) => v = 1 ∧ DC b g' s nm ∧ PU s ∧ Cf g' 0 (-1) ∧ rd g' (b + 13) 0 = 0 ∧ rd g' (b + 13) 1 = 0
abbrev pDawn0 (t : Int → Int) (n : Int) : Rr ((Int → Int) × (Int → Int)) := pDawn t n (n + 1).toNat (skP t n 0) sD (fun _ => 0) 0
theorem c_46 (hb : isD b) (hr : txR t n) (hx : ∀ i, 0 ≤ i → i < n → rd g 10 i = t i) (rw' : RWd g) : Ok (Qdc b g (pDawn0 t n)) (MI X (d + 5) 46 [.inr (.inr 16), .inr (.inr b), .inl n] S0 (ov g)) := by
  have hb2 := isD_rng hb
  obtain ⟨n0, n9, -⟩ := id hr
  have u : unV 2 (.inr (.inr b)) = some b := if_pos (by omega)
  rw [e_46]
  simp only [u, ↓oK_some, ↓P_dre, ↓G_dre, rd_wr_eq, ↓K_daw hb]
  obtain ⟨v1, g1, e1, dc, y0, y1, f1⟩ := c_18 (X := X) (d := d + 3) (g := wr g 16 1 b) hb
  simp only [↓oC_of e1, ↓P_dre, ↓G_dre, ↓K_tok]
  have f2 : ∀ c i, 0 ≤ c → 0 ≤ i → c ≠ 16 → (c < b ∨ b + 13 < c) → rd (wr g1 16 2 0) c i = rd g c i := fun c i x y z w => by
    rw [rd_wr_ne _ _ _ _ (by omega) x z, f1 c i x y w, rd_wr_ne _ _ _ _ (by omega) x z]
  have e16 : rd (wr g1 16 2 0) 16 1 = b := by
    rw [rd_wr_ix _ _ (by omega) (by omega) (by omega), f1 _ _ (by omega) (by omega) (by omega)]
    exact rd_wr_eq _ _ _ _
  have e162 : rd (wr g1 16 2 0) 16 2 = 0 := rd_wr_eq _ _ _ _
  have n2 : ∀ c i, 19 ≤ c → rd (wr g1 16 2 0) c i = rd g1 c i := fun c i x => rd_wr_ne _ _ _ _ (by omega) (by omega) (by omega)
  have dc2 := DC_fr hb (g' := wr g1 16 2 0) dc (fun c i x y z => n2 c i (by omega))
  have y02 := (n2 (b + 13) 0 (by omega)).trans y0
  have y12 := (n2 (b + 13) 1 (by omega)).trans y1
  generalize wr g1 16 2 0 = g2 at f2 e16 e162 dc2 y02 y12 ⊢
  obtain ⟨v3, g3, e3, cs3, cf3, f3⟩ := c_86 (X := X) (d := d + 1) (g := g2) (t := t) (n := n) hr (fun i x y => (f2 _ _ (by omega) (by omega) (by omega) (by omega)).trans (hx i x y))
  rw [oC_of e3]
  have sk := sk_b t (n := n) (p := 0) n0
  have st3 : DSt b g3 sD (fun _ => 0) 0 := ⟨DC_fr hb dc2 (fun c i x y z => f3 c i (by omega) z (by omega)), (f3 _ _ (by omega) (by omega) (by omega)).trans e16, (f3 _ _ (by omega) (by omega) (by omega)).trans e162, RW_fr rw' (fun i a => (f3 _ _ (by omega) a (by omega)).trans (f2 _ _ (by omega) a (by omega) (by omega))), cf3⟩
  refine Ok_mono (c_46_l hb n9 (n + 1).toNat 0 (skP t n 0) g3 sD (fun _ => 0) 0 (by omega) (by omega) sk.1 sk.2.1 st3 PU_D cs3) ?_
  rintro v g' ⟨fd, h⟩
  refine ⟨fun c i x y z w l => ?_, ?_⟩
  · rw [fd c i x y z (by omega) (by omega), f3 c i x y z]; exact f2 c i x y w l
  · have k0 : rd g' (b + 13) 0 = 0 := by rw [fd _ _ (by omega) (by omega) (by omega) (by omega) (by omega), f3 _ _ (by omega) (by omega) (by omega)]; exact y02
    have k1 : rd g' (b + 13) 1 = 0 := by rw [fd _ _ (by omega) (by omega) (by omega) (by omega) (by omega), f3 _ _ (by omega) (by omega) (by omega)]; exact y12
    unfold pDawn0
    generalize pDawn t n (n + 1).toNat (skP t n 0) sD (fun _ => 0) 0 = r at h ⊢
    cases r with
    | inl x => exact h
    | inr x => exact ⟨h.1, h.2.1, h.2.2.1, h.2.2.2, k0, k1⟩
end
