/-! YEARS told, the class: a STEP, all of it -/
section
variable {X : Xs} {d : Nat} {g : Mem} {t : Int → Int} {n q b b0 N : Int} {s nm : Int → Int} {σ : Type} {P : Rr σ → Int → Mem → Prop} {f : Int → Sh → Mem → Option Rs} {R : Int → Int → Int} {np ns D : Int} {oc om : Int → Int}
/-- a block closed -/
theorem YSt_cl (hb : isD b) {n0 n1 : Int} (ys : YSt b n0 n1 g R np ns D oc om) (hD : 0 < D) : 0 ≤ oc (D - 1) ∧ oc (D - 1) < ns ∧ YSt b n0 n1 (wr (wr g 17 4 (D - 1)) (b + 20) (oc (D - 1)) ns) (clR R np (om (D - 1))) (np + 1) ns (D - 1) oc om := by
  have q1 := isD_rng hb
  obtain ⟨a1, a2, a3, a4, a5, a6⟩ := ys
  obtain ⟨l, hl⟩ : ∃ l : Nat, D.toNat = l + 1 := ⟨(D - 1).toNat, by omega⟩
  have el : ((l : Nat) : Int) = D - 1 := by omega
  rw [hl] at a5
  have le := CH_le (l + 1) ns np a5
  have l1 := le.2.2 l (by omega)
  rw [el] at l1
  refine ⟨l1.1, l1.2.1, ?_, ?_, ?_, fun k x y => ?_, ?_, ?_⟩
  · rw [rd_wr_ne _ _ _ _ (by omega) (by omega) (by omega), rd_wr_ne _ _ _ _ (by omega) (by omega) (by omega)]; exact a1
  · rw [rd_wr_ne _ _ _ _ (by omega) (by omega) (by omega), rd_wr_ne _ _ _ _ (by omega) (by omega) (by omega)]; exact a2
  · rw [rd_wr_ne _ _ _ _ (by omega) (by omega) (by omega)]; exact rd_wr_eq _ _ _ _
  · rw [rd_wr_ne _ _ _ _ (by omega) (by omega) (by omega), rd_wr_ne _ _ _ _ (by omega) (by omega) (by omega)]; exact a4 k x (by omega)
  · rw [show (D - 1).toNat = l by omega]
    -- the open blocks below, the block's inside: as before
    obtain ⟨h1, h2, h3, f2, h4⟩ := a5
    rw [el] at h1 h2 h3 h4
    have lb := Blk_le _ _ _ _ _ _ h4
    have cg : ∀ k t', 0 ≤ k → k ≤ 6 → 0 ≤ t' → (k ≠ 6 ∨ t' ≠ oc (D - 1)) → cwG (wr (wr g 17 4 (D - 1)) (b + 20) (oc (D - 1)) ns) b k t' = cwG g b k t' := fun k t' x y z w => by
      show rd _ (b + 14 + k) t' = rd _ (b + 14 + k) t'
      by_cases e : k = 6
      · subst e
        rw [show b + 14 + 6 = b + 20 by omega, rd_wr_ix _ _ l1.1 z (by omega), rd_wr_ne _ _ _ _ (by omega) (by omega) (by omega)]
      · rw [rd_wr_ne _ _ _ _ (by omega) (by omega) (by omega), rd_wr_ne _ _ _ _ (by omega) (by omega) (by omega)]
    have rg : ∀ r k, (r ≠ np) → (r ≠ om (D - 1) ∨ k ≠ 4) → clR R np (om (D - 1)) r k = R r k := fun r k x y => by
      unfold clR
      rw [if_neg x, if_neg (by omega)]
    have c6 : cwG (wr (wr g 17 4 (D - 1)) (b + 20) (oc (D - 1)) ns) b 6 (oc (D - 1)) = ns := by
      show rd _ (b + 14 + 6) _ = _
      rw [show b + 14 + 6 = b + 20 by omega]
      exact rd_wr_eq _ _ _ _
    have e4 : clR R np (om (D - 1)) (om (D - 1)) 4 = np := by
      unfold clR
      rw [if_neg (by omega), if_pos ⟨rfl, rfl⟩]
    have e0 : clR R np (om (D - 1)) np 0 = 21 := by
      unfold clR
      rw [if_pos rfl, if_pos rfl]
    have e5 : clR R np (om (D - 1)) np 4 = om (D - 1) := by
      unfold clR
      rw [if_pos rfl, if_neg (by omega), if_pos rfl]
    refine CH_cl (by omega) (j := ns) (q := np) ?_ (by rw [el]; exact c6) (by rw [el]; exact e4) e0 (by rw [el]; exact e5)
    refine ⟨?_, ?_, ?_, f2, ?_⟩
    · rw [el]
      exact CH_congr l _ _ (fun k t' x y z w => cg k t' x y z (by omega)) (fun r k x y z w => rg r k (by omega) (by omega)) (fun _ _ => ⟨rfl, rfl⟩) h1
    · rw [el, cg 0 _ (by omega) (by omega) l1.1 (by omega), cg 1 _ (by omega) (by omega) l1.1 (by omega), cg 3 _ (by omega) (by omega) l1.1 (by omega), cg 5 _ (by omega) (by omega) l1.1 (by omega)]
      exact h2
    · rw [el, cg 0 _ (by omega) (by omega) l1.1 (by omega), cg 1 _ (by omega) (by omega) l1.1 (by omega), cg 2 _ (by omega) (by omega) l1.1 (by omega), cg 3 _ (by omega) (by omega) l1.1 (by omega), cg 5 _ (by omega) (by omega) l1.1 (by omega)]
      unfold mO at h3 ⊢
      rw [rg _ 0 (by omega) (by omega), rg _ 1 (by omega) (by omega), rg _ 2 (by omega) (by omega), rg _ 5 (by omega) (by omega)]
      exact h3
    · rw [el]
      exact Blk_congr (Int.le_refl _) f2 _ _ _ _ _ (fun k t' x y z w => cg k t' x y (by omega) (by omega)) (fun r k x y z w => rg r k (by omega) (by omega)) h4
  · omega
/-- a STEP more -/
theorem YSt_ad (hb : isD b) {n0 n1 : Int} (ys : YSt b n0 n1 g R np ns D oc om) {g' : Mem} {w : Int} {r oc' om' : Int → Int} (h30 : ns < 30) (hD : isOp w → D < 3) (e0 : rd g' (b + 13) 0 = 1) (e1 : rd g' (b + 13) 1 = ns + 1) (e17 : rd g' 17 4 = if isOp w then D + 1 else D) (e18 : ∀ l, 0 ≤ l → l < D → rd g' 18 l = oc' l ∧ oc' l = oc l ∧ om' l = om l) (e18' : isOp w → rd g' 18 D = ns ∧ oc' D = ns ∧ om' D = np) (fr : ∀ k t', 0 ≤ k → k ≤ 6 → 0 ≤ t' → t' ≠ ns → rd g' (b + 14 + k) t' = rd g (b + 14 + k) t') (e20 : rd g' (b + 20) ns = ns + 1) (st : StP n0 n1 w r (cAt g' b ns)) : YSt b n0 n1 g' (adR R np r) (np + 1) (ns + 1) (if isOp w then D + 1 else D) oc' om' := by
  have q1 := isD_rng hb
  obtain ⟨a1, a2, a3, a4, a5, a6⟩ := ys
  obtain ⟨s0, s1, s2⟩ := st
  have rn : adR R np r np = r := if_pos rfl
  have c6 : cwG g' b 6 ns = ns + 1 := by
    show rd g' (b + 14 + 6) ns = ns + 1
    rw [show b + 14 + 6 = b + 20 by omega]; exact e20
  have ch : CHn n0 n1 (cwG g' b) (adR R np r) oc' om' D.toNat ns np := CH_congr _ _ _ (fun k t' x y z v => fr k t' x y z (by omega)) (fun r' k x y z v => by
    show adR R np r r' k = R r' k
    unfold adR
    rw [if_neg (by omega)]) (fun k hk => by
    have := e18 k (by omega) (by omega)
    exact ⟨this.2.1, this.2.2⟩) a5
  by_cases ho : isOp w
  · rw [if_pos ho] at e17 ⊢
    have e := e18' ho
    have hd := hD ho
    obtain ⟨o1, o2⟩ := s1 ho
    refine ⟨e0, e1, e17, fun l x y => ?_, ?_, by omega⟩
    · by_cases z : l = D
      · rw [z, e.1, e.2.1]
      · exact (e18 l x (by omega)).1
    · rw [show (D + 1).toNat = D.toNat + 1 by omega]
      have eD : ((D.toNat : Nat) : Int) = D := by omega
      refine CH_op ch o1 ?_ (by rw [eD]; exact e.2.1) (by rw [eD]; exact e.2.2)
      rw [rn]; exact o2
  · rw [if_neg ho] at e17 ⊢
    refine ⟨e0, e1, e17, fun l x y => (e18 l x y).1, CH_app c6 ?_ _ ch, by omega⟩
    have z := s2 ho
    unfold okL
    rw [rn]
    exact z
end
