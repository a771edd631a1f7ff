/-! a DAWN told, the model: who holds what; MAN -/
/-- the slot while a MAN is told -/
def DMx (g : Mem) (s nm : Int → Int) (c1 : Int) : Prop := (∀ i, 0 ≤ i → i < 104 → i ≠ 1 → rd g 144 (1888 + i) = s i) ∧ rd g 144 1889 = c1 ∧ (∀ i, 0 ≤ i → i < s 0 → rd g 145 (56 + i) = nm i) ∧ (∀ i, 0 ≤ i → i < s 1 → rd g 145 (64 + i) = nm (8 + i))
section
variable {X : Xs} {d : Nat} {g : Mem} {t : Int → Int} {n q : Int} {s nm : Int → Int} {σ : Type} {P : Rr σ → Int → Mem → Prop} {f : Int → Sh → Mem → Option Rs}
theorem DMx_FM {g' : Mem} {c1 : Int} (h : DMx g s nm c1) (f : FMt g g') : DMx g' s nm c1 := ⟨fun i a b z => (f _ _ (by omega) (by omega) (by omega)).trans (h.1 i a b z), (f _ _ (by omega) (by omega) (by omega)).trans h.2.1, fun i a b => (f _ _ (by omega) (by omega) (by omega)).trans (h.2.2.1 i a b), fun i a b => (f _ _ (by omega) (by omega) (by omega)).trans (h.2.2.2 i a b)⟩
abbrev W1 (o : Option Rs) : Option Rs := oC o fun r S m => if r = 0 ∨ r = 1 then some (r, S, m) else none
theorem m_237_l {c1 : Int} (dm : DMx g s nm c1) (h0 : 0 ≤ s 0) (c0 : 0 ≤ c1) (c6 : c1 < 6) (x : Int) (hx : x ≠ -1) : ∀ (k : Nat) (l : Int), l + k = c1 → 0 ≤ l → EI X (d + 1) 237 26 [some (.inr (.inr 143)), some (.inl (1888 + (44 + 10 * c1))), some (.inl x), some (.inl l)] [] S0 (ov g) = if ff (fun m => decide (mn s m 3 = x)) k l = -1 then W1 (MI X d 235 [.inr (.inr 143), .inl 56, .inl (s 0), .inl (1888 + (44 + 10 * c1) + 3)] S0 (ov g)) else W1 (MI X d 221 [.inr (.inr 143), .inl 5] S0 (ov g)) := by
  have b0 : rd g 144 1888 = s 0 := dm.1 0 (by omega) (by omega) (by omega)
  have b1 := dm.2.1
  have ea : w32 (1888 + (44 + 10 * c1) + 3) = 1888 + (44 + 10 * c1) + 3 := w32_id (by omega) (by omega)
  intro k
  induction k with
  | zero =>
    intro l hk l0
    rw [e_237_26]
    simp (disch := omega) only [↓G_mod, ↓al_144, b0, b1, ↓if_neg, ↓K_mod, ea]
    exact (if_pos rfl).symm
  | succ k ih =>
    intro l hk l0
    have bl := dm.1 (44 + 10 * l + 3) (by omega) (by omega) (by omega)
    rw [show 1888 + (44 + 10 * l + 3) = 1888 + (44 + 10 * l) + 3 by omega] at bl
    have el : w32 (w32 (1888 + (44 + 10 * l)) + 3) = 1888 + (44 + 10 * l) + 3 := by
      rw [w32_id (x := 1888 + (44 + 10 * l)) (by omega) (by omega)]
      exact w32_id (by omega) (by omega)
    rw [e_237_26]
    simp (disch := omega) only [↓G_mod, ↓al_144, b1]
    rw [if_pos (by omega), if_neg hx]
    simp (disch := omega) only [↓oC_of (m_232 l l0 (by omega) _ _), el, ↓al_144, bl, ↓K_mod]
    show (if s (44 + 10 * l + 3) = x then _ else _) = if (bif decide (mn s l 3 = x) then l else ff (fun m => decide (mn s m 3 = x)) k (l + 1)) = -1 then _ else _
    by_cases z : mn s l 3 = x
    · rw [decide_eq_true z, cond_true, if_pos (show s (44 + 10 * l + 3) = x from z), if_neg (by omega)]
    · rw [decide_eq_false z, cond_false, if_neg (show ¬ s (44 + 10 * l + 3) = x from z), w32_id (x := l + 1) (by omega) (by omega)]
      exact ih (l + 1) (by omega) (by omega)
theorem k_237 (hr : txR t n) (mg : Mg t n g q) {c1 : Int} (dm : DMx g s nm c1) (pu : PU s) (hc : s 1 = c1 + 1) (c0 : 0 ≤ c1) (hm : mn s c1 3 = -1) {K : Int → Rr σ} (hs : ∀ h g', 0 ≤ h → h < s 0 → hoN s h = -1 → FMt (wr g 144 (1888 + (44 + 10 * c1) + 3) h) g' → Mg t n g' (nxP t n q) → Ok (P (K h)) (f 1 S0 (ov g'))) (hf : ∀ c p g', Fdm g g' → Mf g' c p → Ok (P (.inl (c, p))) (f 0 S0 (ov g'))) : Ok (P (pHeld t n q s nm K)) (oC (MI X (d + 8) 237 [.inr (.inr 143), .inl (1888 + (44 + 10 * c1))] S0 (ov g)) f) := by
  obtain ⟨i0, i1, i2, i3, -⟩ := id pu.1
  have b0 : rd g 144 1888 = s 0 := dm.1 0 (by omega) (by omega) (by omega)
  have b1 := dm.2.1
  have ea : w32 (1888 + (44 + 10 * c1) + 3) = 1888 + (44 + 10 * c1) + 3 := w32_id (by omega) (by omega)
  rw [e_237]
  unfold pHeld pName
  simp only [↓K_mod, ↓oC_of (m_226 hr mg.1 mg.2.1), ↓if_b2i]
  by_cases hn : nmP t n q
  case neg =>
    rw [if_neg hn, if_neg hn]
    simp (disch := omega) only [↓G_mod, ↓al_144, b0, ↓K_mod, ea]
    rw [oC_as, e_235]
    simp only [↓K_mod, ↓oC_of (m_226 hr mg.1 mg.2.1), ↓if_b2i]
    rw [if_neg hn, oC_as]
    exact k_221 mg 2 (fun g2 fn mf => hf _ _ g2 (Fdm_FN fn) mf)
  rw [if_pos hn, if_pos hn]
  simp (disch := omega) only [↓G_mod, ↓al_144, b0, ↓K_mod, ↓oC_of (m_fn1 hr mg hn dm.2.2.1 i0 i1)]
  have fr := fn1_r s nm (vaP t n q) i0
  have e235 : W1 (MI X (d + 7) 235 [.inr (.inr 143), .inl 56, .inl (s 0), .inl (1888 + (44 + 10 * c1) + 3)] S0 (ov g)) = oC (if fn1 s nm (vaP t n q) = -1 then W1 (MI X (d + 6) 221 [.inr (.inr 143), .inl 3] S0 (ov (wr g 144 (1888 + (44 + 10 * c1) + 3) (fn1 s nm (vaP t n q))))) else oC (MI X (d + 6) 218 [.inr (.inr 143)] S0 (ov (wr g 144 (1888 + (44 + 10 * c1) + 3) (fn1 s nm (vaP t n q))))) fun r7 S7 m7 => some (1, S7, m7)) (fun r S m => if r = 0 ∨ r = 1 then some (r, S, m) else none) := by
    unfold W1
    rw [e_235]
    simp (disch := omega) only [↓K_mod, ↓oC_of (m_226 hr mg.1 mg.2.1), ↓if_b2i]
    rw [if_pos hn]
    simp (disch := omega) only [↓G_mod, ↓oC_of (m_fn1 hr mg hn dm.2.2.1 i0 i1), ↓as_144, ↓al_144, rd_wr_eq, ↓K_mod]
  have fd : Fdm g (wr g 144 (1888 + (44 + 10 * c1) + 3) (fn1 s nm (vaP t n q))) := Fdm_wr _ _ (by omega) (by omega)
  have mgw : Mg t n (wr g 144 (1888 + (44 + 10 * c1) + 3) (fn1 s nm (vaP t n q))) q := Mg_wr mg (by omega) (by omega) (by omega) _ _
  by_cases z : fn1 s nm (vaP t n q) = -1
  · rw [if_pos z]
    rw [z] at e235 fd mgw ⊢
    -- no such THING
    have go : EI X (d + 8) 237 26 [some (.inr (.inr 143)), some (.inl (1888 + (44 + 10 * c1))), some (.inl (-1)), some (.inl 0)] [] S0 (ov g) = W1 (MI X (d + 7) 235 [.inr (.inr 143), .inl 56, .inl (s 0), .inl (1888 + (44 + 10 * c1) + 3)] S0 (ov g)) := by
      rw [e_237_26]
      simp (disch := omega) only [↓G_mod, ↓al_144, b0, b1, ↓K_mod, ea]
      unfold W1
      simp only [↓reduceIte, ite_self]
    rw [go, e235, if_pos rfl, oC_as, oC_as]
    exact k_221 mgw 3 (fun g2 fn mf => hf _ _ g2 (Fdm_tr fd (Fdm_FN fn)) mf)
  · rw [if_neg z, m_237_l dm i0 c0 (by omega) _ z c1.toNat 0 (by omega) (by omega)]
    have ho : hoN s (fn1 s nm (vaP t n q)) = ff (fun m => decide (mn s m 3 = fn1 s nm (vaP t n q))) c1.toNat 0 := by
      unfold hoN
      rw [show (s 1).toNat = c1.toNat + 1 by omega]
      refine ff_last _ _ _ (decide_eq_false ?_)
      rw [show (0 : Int) + (c1.toNat : Nat) = c1 by omega, hm]
      omega
    rw [ho]
    by_cases w : ff (fun m => decide (mn s m 3 = fn1 s nm (vaP t n q))) c1.toNat 0 = -1
    · rw [if_pos w, if_pos w, e235, if_neg z, oC_as, oC_as]
      refine k_218 hr mgw (fun v g2 fm mg2 => ?_)
      exact hs _ g2 (by omega) (by omega) (ho.trans w) fm mg2
    · rw [if_neg w, if_neg w, oC_as]
      exact k_221 mg 5 (fun g2 fn mf => hf _ _ g2 (Fdm_FN fn) mf)
/-- a MAN laid in the slot, not counted -/
def maM (g : Mem) (m v p l : Int) : Mem := wr (wr (wr (wr (wr g 145 (64 + m) v) 144 (1888 + (44 + 10 * m)) p) 144 (1888 + (44 + 10 * m) + 1) l) 144 (1888 + (44 + 10 * m) + 2) l) 144 (1888 + (44 + 10 * m) + 3) (-1)
theorem DMx_ma (dm : DMs g s nm) (h0 : 0 ≤ s 1) (h6 : s 1 < 6) (i1 : s 0 ≤ 8) (v p l : Int) : DMx (maM g (s 1) v p l) (mnS s p l) (us nm (8 + s 1) v) (s 1) ∧ Fdm g (maM g (s 1) v p l) := by
  obtain ⟨f1, -, -, -, -, f6⟩ := mn_all (s := s) p l h0
  refine ⟨⟨fun i i0 i1 i2 => ?_, ?_, fun i i0 i1 => ?_, fun i i0 i1 => ?_⟩, ?_⟩
  · have e := dm.1 i i0 i1
    unfold maM mnS us
    rw [rd_wr_if _ _ _ (by omega) (by omega), rd_wr_if _ _ _ (by omega) (by omega), rd_wr_if _ _ _ (by omega) (by omega), rd_wr_if _ _ _ (by omega) (by omega), rd_wr_ne _ _ _ _ (by omega) (by omega) (by omega), e]
    (repeat' split) <;> first | rfl | omega
  · unfold maM
    simp (disch := omega) only [rd_wr_ix, rd_wr_ne]
    exact dm.1 1 (by omega) (by omega)
  · rw [f6 0 (by omega) (by omega)] at i1
    rw [us_ne _ _ (by omega)]
    unfold maM
    simp (disch := omega) only [rd_wr_ix, rd_wr_ne]
    exact dm.2.1 i i0 i1
  · rw [f1] at i1
    unfold maM us
    rw [rd_wr_ne _ _ _ _ (by omega) (by omega) (by omega), rd_wr_ne _ _ _ _ (by omega) (by omega) (by omega), rd_wr_ne _ _ _ _ (by omega) (by omega) (by omega), rd_wr_ne _ _ _ _ (by omega) (by omega) (by omega), rd_wr_if _ _ _ (by omega) (by omega)]
    by_cases z : i = s 1
    · rw [if_pos (by omega), if_pos (by omega)]
    · rw [if_neg (by omega), if_neg (by omega)]; exact dm.2.2 i i0 (by omega)
  · unfold maM
    exact Fdm_tr (Fdm_tr (Fdm_tr (Fdm_tr (Fdm_wr _ _ (by omega) (by omega)) (Fdm_wr _ _ (by omega) (by omega))) (Fdm_wr _ _ (by omega) (by omega))) (Fdm_wr _ _ (by omega) (by omega))) (Fdm_wr _ _ (by omega) (by omega))
theorem k_233 (hr : txR t n) (mg : Mg t n g q) {r1 r2 : Rr σ} (hs : ∀ g', FMt g g' → Mg t n g' (nxP t n q) → Ok (P r1) (f 1 S0 (ov g'))) (hn : Ok (P r2) (f 0 S0 (ov g))) : Ok (P (if wdP t n q = 11 then r1 else r2)) (oC (MI X (d + 6) 233 [.inr (.inr 143), .inl 11] S0 (ov g)) f) := by
  have wr' := wd_r t n q
  have pe := pm_eq wr'.1 wr'.2 (show -1 ≤ (11 : Int) by omega) (by omega)
  rw [show pmP 11 = 11 from rfl] at pe
  rw [e_233]
  simp only [↓K_mod, ↓oC_of (m_220 hr mg.1 mg.2.1)]
  by_cases h : wdP t n q = 11
  · rw [if_pos (pe.2 h), if_pos h, oC_as]
    exact k_218 hr mg (fun v g1 fm m1 => hs g1 fm m1)
  · rw [if_neg (fun z => h (pe.1 z)), if_neg h]
    exact hn
end
