/-! THE CLASS ACTS -/
def RX (g : Mem) (B : Int → Int) : Prop :=
  rd g 132 0 = B 2 ∧ rd g 132 1 = B 3 ∧ rd g 128 0 = B 7 ∧ rd g 128 1 = B 8 ∧ rd g 129 0 = B 9 ∧ rd g 129 1 = B 10 ∧ rd g 130 0 = B 11 ∧ rd g 130 1 = B 12 ∧ rd g 131 0 = B 13 ∧ rd g 131 1 = B 14 ∧ rd g 125 8 = B 15 ∧ rd g 125 9 = B 16 ∧ rd g 125 10 = B 17
theorem isD_rng {b : Int} (hb : isD b) : 19 ≤ b ∧ b ≤ 104 := by
  unfold isD at hb
  omega
theorem RD_fr {g g' : Mem} {b : Int} {s : Int → Int} (r : RD g b s) (h : ∀ c i, b ≤ c → c ≤ b + 10 → rd g' c i = rd g c i) : RD g' b s := by
  obtain ⟨r0, r1, r2, rt, rm, rw', r6, r7⟩ := r
  unfold RD
  rw [h b 0 (by omega) (by omega), h b 1 (by omega) (by omega), h b 14 (by omega) (by omega), h b 15 (by omega) (by omega), h b 16 (by omega) (by omega), h b 17 (by omega) (by omega), h b 18 (by omega) (by omega)]
  refine ⟨r0, r1, fun i a c => ?_, fun t a c => ?_, fun m a c => ?_, fun m o a c e f => ?_, r6, r7⟩
  · rw [h _ _ (by omega) (by omega)]; exact r2 i a c
  · rw [h _ _ (by omega) (by omega), h _ _ (by omega) (by omega), h _ _ (by omega) (by omega), h _ _ (by omega) (by omega)]; exact rt t a c
  · rw [h _ _ (by omega) (by omega), h _ _ (by omega) (by omega), h _ _ (by omega) (by omega), h _ _ (by omega) (by omega)]; exact rm m a c
  · rw [h _ _ (by omega) (by omega)]; exact rw' m o a c e f
theorem RD_FB {g g' : Mem} {b : Int} {s : Int → Int} (hb : isD b) (r : RD g b s) (h : FB g g') : RD g' b s := by
  have := isD_rng hb
  exact RD_fr r (fun c i x y => h c i (by omega) (by omega))
theorem RD_wrb {g : Mem} {b : Int} {s : Int → Int} (hb : isD b) {c : Int} (i x : Int) (hc : 125 ≤ c) (r : RD g b s) : RD (wr g c i x) b s := by
  have := isD_rng hb
  exact RD_fr r (fun a j y z => rd_wr_ne g i j x (by omega) (by omega) (by omega))
/-- what putBack writes -/
def pB (g : Mem) (b m h L v : Int) : Mem := if h = -1 then wr g (b + 7) m L else wr (wr g (b + 7) m L) (b + 5) h v
theorem pB_ne (g : Mem) {b c : Int} (m h L v j : Int) (hb : 0 ≤ b) (hc : 0 ≤ c) (h1 : c ≠ b + 7) (h2 : c ≠ b + 5) : rd (pB g b m h L v) c j = rd g c j := by
  unfold pB
  split
  · rw [rd_wr_ne _ _ _ _ (by omega) hc h1]
  · rw [rd_wr_ne _ _ _ _ (by omega) hc h2, rd_wr_ne _ _ _ _ (by omega) hc h1]
theorem pB_7 (g : Mem) {b m j : Int} (h L v : Int) (hb : 0 ≤ b) (hm : 0 ≤ m) (hj : 0 ≤ j) : rd (pB g b m h L v) (b + 7) j = if j = m then L else rd g (b + 7) j := by
  unfold pB
  split
  · exact rd_wr_if _ _ _ hm hj
  · rw [rd_wr_ne _ _ _ _ (by omega) (by omega) (by omega)]; exact rd_wr_if _ _ _ hm hj
theorem pB_5 (g : Mem) {b h j : Int} (m L v : Int) (hb : 0 ≤ b) (hh : -1 ≤ h) (hj : 0 ≤ j) : rd (pB g b m h L v) (b + 5) j = if j = h then v else rd g (b + 5) j := by
  unfold pB
  by_cases e : h = -1
  · rw [if_pos e, if_neg (by omega), rd_wr_ne _ _ _ _ (by omega) (by omega) (by omega)]
  · rw [if_neg e, rd_wr_if _ _ _ (by omega) hj]
    by_cases e2 : j = h
    · rw [if_pos e2, if_pos e2]
    · rw [if_neg e2, if_neg e2, rd_wr_ne _ _ _ _ (by omega) (by omega) (by omega)]
section
variable {X : Xs} {d : Nat} {g : Mem} {s : Int → Int} {b N : Int}
theorem c_5 (hb : isD b) {i : Int} (hi : i = 0 ∨ i = 1) {m L be h br : Int} (h0 : 0 ≤ m) (h1 : m < 6) (e1 : rd g 126 i = L) (e2 : rd g 132 i = be) (e3 : rd g (b + 9) m = h) (e4 : -1 ≤ h) (e5 : h < 8) (e6 : h ≠ -1 → rd g (b + 4) h = br) (e7 : -2147483648 ≤ br - be) (e8 : br - be < 2147483648) : MI X d 5 [.inr (.inr 125), .inl i, .inr (.inr b), .inl m] S0 (ov g) = some (0, S0, ov (pB g b m h L (br - be))) := by
  have hb2 := isD_rng hb
  rw [e_5]
  unfold pB
  have hi2 : 0 ≤ i ∧ i < 2 := by omega
  simp (disch := omega) only [↓K_bou, ↓G_bou, ↓P_bou, ↓al_126 _, ↓as_126, ↓al_127 _, ↓as_127, ↓al_128 _, ↓as_128, ↓al_129 _, ↓as_129, ↓al_130 _, ↓as_130, ↓al_131 _, ↓as_131, ↓al_132 _, ↓as_132, ↓al_133 _, ↓as_133, ↓K_daw hb, ↓G_daw hb, ↓P_daw hb, ↓al_D1 _ hb, ↓as_D1 hb, ↓al_D2 _ hb, ↓as_D2 hb, ↓al_D3 _ hb, ↓as_D3 hb, ↓al_D4 _ hb, ↓as_D4 hb, ↓al_D5 _ hb, ↓as_D5 hb, ↓al_D6 _ hb, ↓as_D6 hb, ↓al_D7 _ hb, ↓as_D7 hb, ↓al_D8 _ hb, ↓as_D8 hb, ↓al_D9 _ hb, ↓as_D9 hb, ↓al_D10 _ hb, ↓as_D10 hb, ↓al_D11 hb, ↓as_D11 hb, ↓al_D12 hb, ↓as_D12 hb, rd_wr_ne, e1, e2, e3]
  by_cases z : h = -1
  · rw [if_pos z, if_pos z]
  · have e9 := e6 z
    rw [if_neg z, if_neg z]
    simp (disch := omega) only [↓K_bou, ↓G_bou, ↓P_bou, ↓al_126 _, ↓as_126, ↓al_127 _, ↓as_127, ↓al_128 _, ↓as_128, ↓al_129 _, ↓as_129, ↓al_130 _, ↓as_130, ↓al_131 _, ↓as_131, ↓al_132 _, ↓as_132, ↓al_133 _, ↓as_133, ↓K_daw hb, ↓G_daw hb, ↓P_daw hb, ↓al_D1 _ hb, ↓as_D1 hb, ↓al_D2 _ hb, ↓as_D2 hb, ↓al_D3 _ hb, ↓as_D3 hb, ↓al_D4 _ hb, ↓as_D4 hb, ↓al_D5 _ hb, ↓as_D5 hb, ↓al_D6 _ hb, ↓as_D6 hb, ↓al_D7 _ hb, ↓as_D7 hb, ↓al_D8 _ hb, ↓as_D8 hb, ↓al_D9 _ hb, ↓as_D9 hb, ↓al_D10 _ hb, ↓as_D10 hb, ↓al_D11 hb, ↓as_D11 hb, ↓al_D12 hb, ↓as_D12 hb, rd_wr_ne, e2, e9, w32_id]
theorem c_3 (hb : isD b) (r : RD g b s) (hi : Iv N s) (m o : Int) (h1 : 0 ≤ m) (h2 : m < s 1) (h3 : 0 ≤ o) (h4 : o < s 1) : Ok (fun _ g' => RX g' (boP s m o) ∧ FB g g') (MI X (d + 1) 3 [.inr (.inr 125), .inr (.inr b), .inl m, .inl o] S0 (ov g)) := by
  have hb2 := isD_rng hb
  have hr := r
  have hi' := hi
  obtain ⟨r0, r1, r2, rt, rm, -⟩ := r
  obtain ⟨i0, i1, i2, i3, -, -, -, -, -, -, -, -, -, im, -⟩ := hi
  obtain ⟨-, -, -, -, -, -, m1, m2⟩ := im m h1 h2
  obtain ⟨-, -, -, -, -, -, o1, o2⟩ := im o h3 h4
  clear im
  have sb := isD_rng hb
  rw [e_3]
  simp (disch := omega) only [↓K_bou, ↓G_bou, ↓P_bou, ↓al_126 _, ↓as_126, ↓al_127 _, ↓as_127, ↓al_128 _, ↓as_128, ↓al_129 _, ↓as_129, ↓al_130 _, ↓as_130, ↓al_131 _, ↓as_131, ↓al_132 _, ↓as_132, ↓al_133 _, ↓as_133, ↓K_daw hb, ↓G_daw hb, ↓P_daw hb, ↓al_D1 _ hb, ↓as_D1 hb, ↓al_D2 _ hb, ↓as_D2 hb, ↓al_D3 _ hb, ↓as_D3 hb, ↓al_D4 _ hb, ↓as_D4 hb, ↓al_D5 _ hb, ↓as_D5 hb, ↓al_D6 _ hb, ↓as_D6 hb, ↓al_D7 _ hb, ↓as_D7 hb, ↓al_D8 _ hb, ↓as_D8 hb, ↓al_D9 _ hb, ↓as_D9 hb, ↓al_D10 _ hb, ↓as_D10 hb, ↓al_D11 hb, ↓as_D11 hb, ↓al_D12 hb, ↓as_D12 hb, rd_wr_ne, r2, Int.reduceAdd]
  by_cases z1 : mn s m 3 = -1 <;> by_cases z2 : mn s o 3 = -1
  all_goals
    rw [e_3_33]
    simp (disch := first | omega | (repeat first | exact hr | exact hi' | refine RD_wrb hb _ _ (by omega) ?_)) only [↓K_bou, ↓G_bou, ↓P_bou, ↓al_126 _, ↓as_126, ↓al_127 _, ↓as_127, ↓al_128 _, ↓as_128, ↓al_129 _, ↓as_129, ↓al_130 _, ↓as_130, ↓al_131 _, ↓as_131, ↓al_132 _, ↓as_132, ↓al_133 _, ↓as_133, ↓K_daw hb, ↓G_daw hb, ↓P_daw hb, ↓al_D1 _ hb, ↓as_D1 hb, ↓al_D2 _ hb, ↓as_D2 hb, ↓al_D3 _ hb, ↓as_D3 hb, ↓al_D4 _ hb, ↓as_D4 hb, ↓al_D5 _ hb, ↓as_D5 hb, ↓al_D6 _ hb, ↓as_D6 hb, ↓al_D7 _ hb, ↓as_D7 hb, ↓al_D8 _ hb, ↓as_D8 hb, ↓al_D9 _ hb, ↓as_D9 hb, ↓al_D10 _ hb, ↓as_D10 hb, ↓al_D11 hb, ↓as_D11 hb, ↓al_D12 hb, ↓as_D12 hb, ↓if_pos, ↓if_neg, rd_wr_eq, rd_wr_ne, rd_wr_ix, rm, rt, ↓oC_of (c_29 hb _ hi' _ _ _), w32_id, Int.reduceAdd]
    rw [e_3_33]
    simp (disch := first | omega | (repeat first | exact hr | exact hi' | refine RD_wrb hb _ _ (by omega) ?_)) only [↓K_bou, ↓G_bou, ↓P_bou, ↓al_126 _, ↓as_126, ↓al_127 _, ↓as_127, ↓al_128 _, ↓as_128, ↓al_129 _, ↓as_129, ↓al_130 _, ↓as_130, ↓al_131 _, ↓as_131, ↓al_132 _, ↓as_132, ↓al_133 _, ↓as_133, ↓K_daw hb, ↓G_daw hb, ↓P_daw hb, ↓al_D1 _ hb, ↓as_D1 hb, ↓al_D2 _ hb, ↓as_D2 hb, ↓al_D3 _ hb, ↓as_D3 hb, ↓al_D4 _ hb, ↓as_D4 hb, ↓al_D5 _ hb, ↓as_D5 hb, ↓al_D6 _ hb, ↓as_D6 hb, ↓al_D7 _ hb, ↓as_D7 hb, ↓al_D8 _ hb, ↓as_D8 hb, ↓al_D9 _ hb, ↓as_D9 hb, ↓al_D10 _ hb, ↓as_D10 hb, ↓al_D11 hb, ↓as_D11 hb, ↓al_D12 hb, ↓as_D12 hb, ↓if_pos, ↓if_neg, rd_wr_eq, rd_wr_ne, rd_wr_ix, rm, rt, ↓oC_of (c_29 hb _ hi' _ _ _), w32_id, Int.reduceAdd]
    rw [e_3_33]
    simp (disch := omega) only [↓if_neg]
    refine Ok_some ⟨?_, ?_⟩
    · unfold RX
      simp (disch := omega) only [bo_all, rd_wr_eq, rd_wr_ne, rd_wr_ix, hdv, z1, z2, ↓reduceIte, and_self]
    · intro c j hc hcc
      simp (disch := omega) only [rd_wr_ne]
end
