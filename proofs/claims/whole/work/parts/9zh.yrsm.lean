/-! YEARS told, the model: small readers -/
section
variable {X : Xs} {d : Nat} {g : Mem} {t : Int → Int} {n q N : Int} {s nm : Int → Int} {σ : Type} {P : Rr σ → Int → Mem → Prop} {f : Int → Sh → Mem → Option Rs}
theorem k_235 (hr : txR t n) (mg : Mg t n g q) {bs ct x dst : Int} (b0 : 0 ≤ bs) (c0 : 0 ≤ ct) (c8 : ct ≤ 8) (bc : bs + ct ≤ 84) (d0 : 1888 ≤ dst) (d1 : dst < 3768) (hx : nmP t n q → ff (fun i => decide (rd g 145 (bs + i) = vaP t n q)) ct.toNat 0 = x) {K : Int → Rr σ} (hs : ∀ g', x ≠ -1 → FMt (wr g 144 dst x) g' → Mg t n g' (nxP t n q) → Ok (P (K x)) (f 1 S0 (ov g'))) (hf : ∀ c p g', Fdm g g' → Mf g' c p → Ok (P (.inl (c, p))) (f 0 S0 (ov g'))) : Ok (P (pName t n q (if x = -1 then pBad t n q 3 else K x))) (oC (MI X (d + 7) 235 [.inr (.inr 143), .inl bs, .inl ct, .inl dst] S0 (ov g)) f) := by
  rw [e_235]
  unfold pName
  simp only [↓K_mod, ↓oC_of (m_226 hr mg.1 mg.2.1), ↓if_b2i]
  by_cases hn : nmP t n q
  case neg =>
    rw [if_neg hn, if_neg hn, oC_as]
    exact k_221 mg 2 (fun g2 fn mf => hf _ _ g2 (Fdm_FN fn) mf)
  rw [if_pos hn, if_pos hn]
  have e := m_228 (X := X) (d := d + 4) hr mg.1 mg.2.1 hn b0 c0 c8 bc
  rw [hx hn] at e
  have mgw : Mg t n (wr g 144 dst x) q := Mg_wr mg (by omega) (by omega) (by omega) _ _
  have fd : Fdm g (wr g 144 dst x) := Fdm_wr _ _ (by omega) (by omega)
  simp (disch := omega) only [↓G_mod, ↓oC_of e, ↓as_144, ↓al_144, rd_wr_eq, ↓K_mod]
  by_cases z : x = -1
  · rw [if_pos z, if_pos z, oC_as]
    exact k_221 mgw 3 (fun g2 fn mf => hf _ _ g2 (Fdm_tr fd (Fdm_FN fn)) mf)
  · rw [if_neg z, if_neg z, oC_as]
    exact k_218 hr mgw (fun v g2 fm mg2 => hs g2 z fm mg2)
/-- the names in use, the model -/
def NMm (g : Mem) (s nm : Int → Int) : Prop := rd g 144 0 = s 0 ∧ rd g 144 1 = s 1 ∧ (∀ i, 0 ≤ i → i < s 0 → rd g 145 i = nm i) ∧ (∀ i, 0 ≤ i → i < s 1 → rd g 145 (8 + i) = nm (8 + i))
theorem k_241 (hr : txR t n) (mg : Mg t n g q) (nn : NMm g s nm) (iv : Iv N s) {dst : Int} (d0 : 1888 ≤ dst) (d1 : dst < 3768) {K : Int → Rr σ} (hs : ∀ m g', 0 ≤ m → m < s 1 → FMt (wr g 144 dst m) g' → Mg t n g' (nxP t n q) → Ok (P (K m)) (f 1 S0 (ov g'))) (hf : ∀ c p g', Fdm g g' → Mf g' c p → Ok (P (.inl (c, p))) (f 0 S0 (ov g'))) : Ok (P (pMn t n q s nm K)) (oC (MI X (d + 8) 241 [.inr (.inr 143), .inl dst] S0 (ov g)) f) := by
  obtain ⟨i0, i1, i2, i3, -⟩ := id iv
  obtain ⟨n0, n1, n2, n3⟩ := nn
  rw [e_241]
  simp (disch := omega) only [↓G_mod, ↓al_144, n1, ↓K_mod]
  rw [oC_as]
  have fr := fn2_r s nm (vaP t n q) i2
  unfold pMn
  refine k_235 hr mg (by omega) i2 (by omega) (by omega) d0 d1 (fun _ => ?_) (fun g' z fm mg' => ?_) (fun c p g' fd mf => hf c p g' fd mf)
  · exact ff_cg _ _ (fun i a b => by rw [n3 i a (by omega)])
  · exact hs _ g' (by omega) (by omega) fm mg'
theorem k_235t (hr : txR t n) (mg : Mg t n g q) (nn : NMm g s nm) (iv : Iv N s) {dst : Int} (d0 : 1888 ≤ dst) (d1 : dst < 3768) {K : Int → Rr σ} (hs : ∀ m g', 0 ≤ m → m < s 0 → FMt (wr g 144 dst m) g' → Mg t n g' (nxP t n q) → Ok (P (K m)) (f 1 S0 (ov g'))) (hf : ∀ c p g', Fdm g g' → Mf g' c p → Ok (P (.inl (c, p))) (f 0 S0 (ov g'))) : Ok (P (pTn t n q s nm K)) (oC (MI X (d + 7) 235 [.inr (.inr 143), .inl 0, .inl (s 0), .inl dst] S0 (ov g)) f) := by
  obtain ⟨i0, i1, i2, i3, -⟩ := id iv
  obtain ⟨n0, n1, n2, n3⟩ := nn
  have fr := fn1_r s nm (vaP t n q) i0
  unfold pTn
  refine k_235 hr mg (by omega) i0 i1 (by omega) d0 d1 (fun _ => ?_) (fun g' z fm mg' => ?_) (fun c p g' fd mf => hf c p g' fd mf)
  · exact ff_cg _ _ (fun i a b => by rw [show 0 + i = i by omega, n2 i a (by omega)])
  · exact hs _ g' (by omega) (by omega) fm mg'
end
