/-! arms of the class: depth first, with a bound -/
def Gq (g : Mem) (s : Int → Int) (o V : Int) : Prop := rd g 134 4 = s 1 ∧ rd g 134 5 = s 0 ∧ rd g 134 6 = V ∧ ∀ m t, 0 ≤ m → m < s 1 → m ≠ o → 0 ≤ t → t < s 0 → rd g 137 (m * 8 + t) = ndN s m o t
def Bq (g : Mem) (B : Int) : Prop := rd g 134 1 = (if B = 1000000 then -1 else B)
def Fq (g g' : Mem) : Prop := ∀ c i, 0 ≤ c → 0 ≤ i → (c ≠ 134 ∨ i ≠ 1) → c ≠ 135 → c ≠ 136 → rd g' c i = rd g c i
theorem Fq_tr {g g1 g2 : Mem} (h1 : Fq g g1) (h2 : Fq g1 g2) : Fq g g2 := fun c i a b e f k => (h2 c i a b e f k).trans (h1 c i a b e f k)
theorem Fq_rf (g : Mem) : Fq g g := fun _ _ _ _ _ _ _ => rfl
theorem Gq_fr {g g1 : Mem} {s : Int → Int} {o V : Int} (h : Gq g s o V) (f : Fq g g1) : Gq g1 s o V := by
  obtain ⟨a, b, c, e⟩ := h
  unfold Gq
  rw [f 134 4 (by omega) (by omega) (by omega) (by omega) (by omega), f 134 5 (by omega) (by omega) (by omega) (by omega) (by omega), f 134 6 (by omega) (by omega) (by omega) (by omega) (by omega)]
  refine ⟨a, b, c, fun m t h1 h2 h3 h4 h5 => ?_⟩
  rw [f 137 (m * 8 + t) (by omega) (by omega) (by omega) (by omega) (by omega)]
  exact e m t h1 h2 h3 h4 h5
def mB (B x : Int) : Int := if x < B then x else B
theorem arT_x {nd : Int → Int → Int} {V : Int} {K k : Nat} {m T M : Int} {n : Nat} {t : Int} (h : ¬ (bi T t = 0 ∧ arG nd V K k m T t = M)) : arT nd V K k m T M (n + 1) t = arT nd V K k m T M n (t + 1) := by
  show (bif decide (bi T t = 0 ∧ arG nd V K k m T t = M) then t else arT nd V K k m T M n (t + 1)) = _
  rw [decide_eq_false h, cond_false]
theorem arT_t {nd : Int → Int → Int} {V : Int} {K k : Nat} {m T M : Int} {n : Nat} {t : Int} (h : bi T t = 0 ∧ arG nd V K k m T t = M) : arT nd V K k m T M (n + 1) t = t := by
  show (bif decide (bi T t = 0 ∧ arG nd V K k m T t = M) then t else arT nd V K k m T M n (t + 1)) = _
  rw [decide_eq_true h, cond_true]
theorem bi_d (v i : Int) : am_and (am_shr v i) 1 = bi v i := rfl
abbrev oB (B : Int) : Prop := B = 1000000 ∨ (0 ≤ B ∧ B ≤ 400)
theorem acp_gif (X : Xs) (g : Mem) {A : Type} (n : A) (f : Mem → A) : oK (acp X S0 (ov g) 136 0 135 0 6) n f = f (ov (cp g 135 136 0 0 6)) := by
  rw [acp_pos X g (K := 20) (lr := 6) (lq := 6) (Or.inl rfl) (by decide) rfl rfl rfl rfl (fun _ => rfl) (fun _ => rfl) (by decide) (by decide) (by decide) (by decide) (by decide)]
  rfl
section
variable {X : Xs} {d : Nat} {g : Mem} {s : Int → Int} {N : Int}
/-- what the search from man m on leaves -/
def Dq (s : Int → Int) (o V m sum M B : Int) (A : Int → Int) (g1 g' : Mem) : Prop :=
  Fq g1 g' ∧ (∀ i, 0 ≤ i → i < m → rd g' 136 i = rd g1 136 i) ∧ Bq g' (mB B (sum + M)) ∧ (∀ i, 0 ≤ i → i < s 1 → (i < m ∨ bi V i = 1) → rd g' 135 i = if sum + M < B then (if i < m then rd g1 136 i else A i) else rd g1 135 i)
theorem c_66_l (hi : Iv N s) (o V : Int) (h3 : 0 ≤ o) (h4 : o < s 1) (hV : bi V o = 0) (K : Nat) (hK : (K : Int) = s 0) (k : Nat) (m T sum : Int) (hm : m + k + 1 = s 1) (m0 : 0 ≤ m) (hb1 : bi V m = 1) (s0 : 0 ≤ sum) (s1 : sum ≤ 60 * m)
    (ihD : ∀ (T sum B : Int) (g1 : Mem), Gq g1 s o V → Bq g1 B → oB B → 0 ≤ sum → sum ≤ 60 * (m + 1) → Ok (fun _ g' => Dq s o V (m + 1) sum (arF (fun m t => ndN s m o t) V K k (m + 1) T) B (arA (fun m t => ndN s m o t) V K k (m + 1) T) g1 g') (MI X (d + k + 1) 66 [.inr (.inr 134), .inl (m + 1), .inl T, .inl sum] S0 (ov g1))) :
    ∀ (k2 : Nat) (t B : Int) (g1 : Mem), t + k2 = s 0 → 0 ≤ t → Gq g1 s o V → Bq g1 B → oB B → Ok (fun _ g' => Dq s o V m sum (mnF T (arG (fun m t => ndN s m o t) V K k m T) k2 t 1000000) B (fun i => if i = m then arT (fun m t => ndN s m o t) V K k m T (mnF T (arG (fun m t => ndN s m o t) V K k m T) k2 t 1000000) k2 t else arA (fun m t => ndN s m o t) V K k (m + 1) (oI T (arT (fun m t => ndN s m o t) V K k m T (mnF T (arG (fun m t => ndN s m o t) V K k m T) k2 t 1000000) k2 t)) i) g1 g') (EI X (d + k + 2) 66 70 [some (.inr (.inr 134)), some (.inl m), some (.inl T), some (.inl sum), some (.inl t), none] [] S0 (ov g1)) := by
  have i1 := hi.2.1
  have i3 := hi.2.2.2.1
  have hn : ∀ m t, -1 ≤ (fun m t => ndN s m o t) m t ∧ (fun m t => ndN s m o t) m t ≤ 60 := fun m t => ndN_r hi h3 h4 t
  have ab := arF_b hn V K k (by omega)
  have mo : m ≠ o := fun e => by rw [e] at hb1; omega
  intro k2
  induction k2 with
  | zero =>
    intro t B g1 hk t0 gq bq hB
    rw [e_66_70]
    simp only [↓G_gif, gq.2.1]
    rw [if_neg (show ¬ t < s 0 by omega)]
    refine Ok_some ⟨Fq_rf g1, fun _ _ _ => rfl, ?_, fun i a b c => ?_⟩
    · show Bq g1 (mB B (sum + 1000000))
      unfold mB
      rw [if_neg (by omega)]
      exact bq
    · exact (if_neg (show ¬ sum + 1000000 < B by omega)).symm
  | succ k2 ih =>
    intro t B g1 hk t0 gq bq hB
    have hv := gq.2.2.2 m t m0 (by omega) mo t0 (by omega)
    have n := ndN_r hi (m := m) h3 h4 t
    rw [e_66_70]
    simp only [↓G_gif, gq.2.1]
    rw [if_pos (show t < s 0 by omega), w32_id (x := m * 8) (by omega) (by omega), w32_id (x := m * 8 + t) (by omega) (by omega), al_137 X g1 (by omega) (by omega), hv, bi_d, w32_id (x := t + 1) (by omega) (by omega)]
    have M1 := mnF_le T (arG (fun m t => ndN s m o t) V K k m T) k2 (t + 1) 1000000
    have gb := arG_b hn V K m T (by omega) ab t
    by_cases hT : bi T t = 0
    case neg =>
      have hT1 : bi T t = 1 := by have := bi_01 T t; omega
      rw [if_neg hT, mnF_x _ _ _ _ hT1, arT_x (fun z => hT z.1)]
      exact ih (t + 1) B g1 (by omega) (by omega) gq bq hB
    rw [if_pos hT, mnF_n _ _ _ _ hT (by omega)]
    by_cases hv1 : ndN s m o t = -1
    · have e6 : arG (fun m t => ndN s m o t) V K k m T t = 1000000 := by
        have q := ab (m + 1) (oI T t)
        have o1 : orF (ndN s m o t) = 1000000 := if_pos hv1
        show am_min 1000000 (orF (ndN s m o t) + arF (fun m t => ndN s m o t) V K k (m + 1) (oI T t)) = 1000000
        rw [o1]
        unfold am_min
        split <;> omega
      have e7 : am_min (arG (fun m t => ndN s m o t) V K k m T t) (mnF T (arG (fun m t => ndN s m o t) V K k m T) k2 (t + 1) 1000000) = mnF T (arG (fun m t => ndN s m o t) V K k m T) k2 (t + 1) 1000000 := by
        rw [e6]; unfold am_min; split <;> omega
      rw [if_pos hv1, e7]
      refine Ok_mono (ih (t + 1) B g1 (by omega) (by omega) gq bq hB) ?_
      rintro v g2 ⟨q1, q2, q3, q4⟩
      refine ⟨q1, q2, q3, fun i a b c => ?_⟩
      have q := q4 i a b c
      rw [q]
      by_cases lt : sum + mnF T (arG (fun m t => ndN s m o t) V K k m T) k2 (t + 1) 1000000 < B
      · rw [if_pos lt, if_pos lt, arT_x (n := k2) (fun z => by omega)]
      · rw [if_neg lt, if_neg lt]
    · rw [if_neg hv1]
      simp (disch := omega) only [↓G_gif, ↓as_136]
      rw [w32_id (x := m + 1) (by omega) (by omega), w32_id (x := sum + ndN s m o t) (by omega) (by omega)]
      have fw : Fq g1 (wr g1 136 m t) := fun c i a b e f k => rd_wr_ne g1 m i t (by omega) a k
      have bqw : Bq (wr g1 136 m t) B := by
        unfold Bq
        rw [rd_wr_ne g1 m 1 t (by omega) (by omega) (by omega)]
        exact bq
      have ar := ab (m + 1) (oI T t)
      have eg : arG (fun m t => ndN s m o t) V K k m T t = am_min 1000000 (ndN s m o t + arF (fun m t => ndN s m o t) V K k (m + 1) (oI T t)) := by
        unfold arG orF
        rw [if_neg hv1]
      refine Ok_bind (ihD (oI T t) (sum + ndN s m o t) B _ (Gq_fr gq fw) bqw hB (by omega) (by omega)) ?_
      rintro v g3 ⟨q1, q2, q3, q4⟩
      have f3 : Fq g1 g3 := Fq_tr fw q1
      have hB3 : oB (mB B (sum + ndN s m o t + arF (fun m t => ndN s m o t) V K k (m + 1) (oI T t))) := by
        unfold mB
        split <;> omega
      refine Ok_mono (ih (t + 1) _ g3 (by omega) (by omega) (Gq_fr gq f3) q3 hB3) ?_
      rintro v2 g4 ⟨p1, p2, p3, p4⟩
      refine ⟨Fq_tr f3 p1, fun i a b => ?_, ?_, fun i a b c => ?_⟩
      · rw [p2 i a b, q2 i a (by omega), rd_wr_ix g1 _ (by omega) a (by omega)]
      · have e8 : mB (mB B (sum + ndN s m o t + arF (fun m t => ndN s m o t) V K k (m + 1) (oI T t))) (sum + mnF T (arG (fun m t => ndN s m o t) V K k m T) k2 (t + 1) 1000000) = mB B (sum + am_min (arG (fun m t => ndN s m o t) V K k m T t) (mnF T (arG (fun m t => ndN s m o t) V K k m T) k2 (t + 1) 1000000)) := by
          rw [eg]
          unfold mB am_min
          (repeat' split) <;> omega
        rw [← e8]
        exact p3
      · have z1 := p4 i a b c
        have z2 := q4 i a b (by omega)
        have w1 : i < m → rd g3 136 i = rd g1 136 i := fun h => by rw [q2 i a (by omega), rd_wr_ix g1 _ (by omega) a (by omega)]
        have w2 : rd (wr g1 136 m t) 135 i = rd g1 135 i := rd_wr_ne g1 m i t (by omega) (by omega) (by omega)
        have w3 : i < m → rd (wr g1 136 m t) 136 i = rd g1 136 i := fun h => rd_wr_ix g1 _ (by omega) a (by omega)
        have w4 : rd (wr g1 136 m t) 136 m = t := rd_wr_eq _ _ _ _
        by_cases c1 : sum + mnF T (arG (fun m t => ndN s m o t) V K k m T) k2 (t + 1) 1000000 < mB B (sum + ndN s m o t + arF (fun m t => ndN s m o t) V K k (m + 1) (oI T t))
        · rw [if_pos c1] at z1
          have lt : mnF T (arG (fun m t => ndN s m o t) V K k m T) k2 (t + 1) 1000000 < arG (fun m t => ndN s m o t) V K k m T t ∧ sum + mnF T (arG (fun m t => ndN s m o t) V K k m T) k2 (t + 1) 1000000 < B := by
            rw [eg]
            unfold mB at c1
            unfold am_min
            split at c1 <;> split <;> omega
          have e9 : am_min (arG (fun m t => ndN s m o t) V K k m T t) (mnF T (arG (fun m t => ndN s m o t) V K k m T) k2 (t + 1) 1000000) = mnF T (arG (fun m t => ndN s m o t) V K k m T) k2 (t + 1) 1000000 := by
            unfold am_min; rw [if_neg (by omega)]
          rw [e9, if_pos lt.2, z1, arT_x (n := k2) (fun z => by omega)]
          by_cases im : i < m
          · rw [if_pos im, if_pos im, w1 im]
          · rw [if_neg im, if_neg im]
        · rw [if_neg c1] at z1
          rw [z1, z2]
          by_cases c2 : sum + ndN s m o t + arF (fun m t => ndN s m o t) V K k (m + 1) (oI T t) < B
          · have e9 : am_min (arG (fun m t => ndN s m o t) V K k m T t) (mnF T (arG (fun m t => ndN s m o t) V K k m T) k2 (t + 1) 1000000) = arG (fun m t => ndN s m o t) V K k m T t ∧ sum + arG (fun m t => ndN s m o t) V K k m T t < B := by
              unfold mB at c1
              rw [if_pos c2] at c1
              rw [eg]
              unfold am_min
              (repeat' split) <;> omega
            rw [e9.1, if_pos c2, if_pos e9.2, arT_t ⟨hT, rfl⟩]
            by_cases im : i < m
            · rw [if_pos (by omega), if_pos im, w3 im]
            · rw [if_neg im]
              by_cases ie : i = m
              · rw [if_pos (by omega)]
                show _ = (if i = m then t else _)
                rw [if_pos ie, ie, w4]
              · rw [if_neg (by omega)]
                show _ = (if i = m then t else _)
                rw [if_neg ie]
          · have e9 : ¬ sum + am_min (arG (fun m t => ndN s m o t) V K k m T t) (mnF T (arG (fun m t => ndN s m o t) V K k m T) k2 (t + 1) 1000000) < B := by
              unfold mB at c1
              rw [if_neg c2] at c1
              rw [eg]
              unfold am_min
              (repeat' split) <;> omega
            rw [if_neg c2, if_neg e9, w2]
end
