/-! THE MODEL ACTS, whole; what holds behind an ACT -/
section
variable {X : Xs} {d : Nat} {g : Mem} {s : Int → Int} {N : Int}
theorem be_none (s : Int → Int) : beY s (-1) = 0 := if_pos rfl
theorem ac1_keep (s : Int → Int) (a t w o : Int) (ht : t = 0 ∨ t = 1) (hw : 0 ≤ w) (ho : 0 ≤ o) (h1 : -1 ≤ mn s w 3) (h2 : mn s w 3 < 8) : ac1 s a t w o 10 = s 10 ∧ ∀ m p, 0 ≤ m → 0 ≤ p → p < 6 → mn (ac1 s a t w o) m (4 + p) = mn s m (4 + p) := by
  have hz : 0 < beY s (mn s w 3) → 0 ≤ mn s w 3 := fun z => by
    have : mn s w 3 ≠ -1 := fun e => by rw [e, be_none] at z; exact absurd z (by decide)
    omega
  unfold ac1
  by_cases z : 0 < beY s (mn s w 3)
  · have z1 := hz z
    rw [if_pos z]
    refine ⟨?_, fun m p a1 a2 a3 => ?_⟩ <;> (repeat' split) <;> simp (disch := omega) only [us_ne, sk_m, sl_k, sl_n, sw_k, sw_m]
  · rw [if_neg z]
    refine ⟨?_, fun m p a1 a2 a3 => ?_⟩ <;> (repeat' split) <;> simp (disch := omega) only [us_ne, sk_m, sl_k, sl_n]
theorem m_279 (r : RM g s) (hi : Iv N s) (hN : N < 900000) (hd : s 6 ≠ -1) (a : Int) (ha : a = 0 ∨ a = 1 ∨ a = 2 ∨ a = 3) : Ok (fun v g' => v = tkB (boN s) a ∧ RM g' (acS s a) ∧ FM g g') (MI X (d + 7) 279 [.inr (.inr 143), .inl a] S0 (ov g)) := by
  have rr : ∀ i, 0 ≤ i → i < 104 → rd g 144 i = s i := r
  have hi' := hi
  obtain ⟨i0, i1, i2, i3, j2, j3, j4, j5, j6, j7, j8, j9, it, im, iw, ia, ih, i6, iu⟩ := hi
  obtain ⟨u0, u1, u2, u3, u4, u5, u6, u7, u8, u9, u10, u11⟩ := iu hd
  have hm : s 10 % 2 = 0 ∨ s 10 % 2 = 1 := by omega
  have hw : 0 ≤ s (6 + s 10 % 2) ∧ s (6 + s 10 % 2) < s 1 ∧ 0 ≤ s (7 - s 10 % 2) ∧ s (7 - s 10 % 2) < s 1 := by
    rcases hm with e | e <;> rw [e] <;> simp only [Int.reduceAdd, Int.reduceSub] <;> omega
  have q277 := m_277 (X := X) (d := d) r hi' hd
  have q271 := m_271 (X := X) (d := d + 5) r u10
  have q270 := m_270 (X := X) (d := d + 6) r u10
  have a7 : rd g 144 (7 - s 10 % 2) = s (7 - s 10 % 2) := rr _ (by omega) (by omega)
  have tk : tkB (boN s) a = if a = 3 then am_min (mn s (s (7 - s 10 % 2)) 1) (huB (boN s) (s 10 % 2)) else 0 := by
    unfold tkB
    rcases hm with e | e
    · simp only [bo_all, e, Int.reduceSub]
    · simp only [bo_all, e, Int.reduceSub, Int.sub_self]
  rw [e_279, tk]
  unfold acS ac2
  simp (disch := omega) only [↓K_mod, ↓G_mod, ↓P_mod, ↓al_144 _, ↓as_144, ↓oC_of q271, ↓oC_of q270, w32_id, a7]
  clear a7 tk
  generalize s (6 + s 10 % 2) = w at hw q271 q277 ⊢
  generalize s (7 - s 10 % 2) = o at hw q277 ⊢
  generalize am_min (mn s o 1) (huB (boN s) (s 10 % 2)) = mu at q277 ⊢
  obtain ⟨w0, w1, o0, o1⟩ := hw
  obtain ⟨-, -, l0, l1, l3, l2, x1, x2⟩ := im w w0 w1
  have wi := Iv_mn hi' w0 w1 o0 o1
  have wj := (Iv_wo hi' w0 w1).2
  have k0 := ac1_keep s a (s 10 % 2) w o hm w0 o0 (by omega) (by omega)
  have c0 : 0 ≤ s 8 ∧ s 8 ≤ 12 ∧ 0 ≤ s 9 ∧ s 9 ≤ 12 := by omega
  clear it im iw ia ih i6 iu hi' u0 u1 u2 u3 u4 u5 u6 u7 u8 u9 j2 j3 j4 j5 j6 j7 j8 j9
  generalize s 10 % 2 = t at hm q271 q270 q277 k0 ⊢
  have k1 := k0.2 w o w0 o0 (by omega)
  have fi : ∀ (v : Int) (g1 : Mem), RM g1 (ac1 s a t w o) → Ok (fun z g' => z = v ∧ RM g' (fin (us (ac1 s a t w o) 10 (s 10 + 1)) w o) ∧ FM g1 g') (EI X (d + 7) 279 141 [some (.inr (.inr 143)), none, some (.inl w), some (.inl o), some (.inl v), none] [] S0 (ov g1)) := by
    intro v g1 r1
    have q := m_279_141 (X := X) (d := d + 5) r1 w o v w0 (by omega) o0 (by omega) (by rw [k0.1]; omega) (by rw [k0.1]; omega) (by rw [k1]; omega) (by rw [k1]; omega)
    rw [k0.1] at q
    exact q
  clear k0 k1
  rcases ha with rfl | rfl | rfl | rfl
  · have e1 : s (44 + 10 * w + 1) = mn s w 1 := rfl
    rcases hm with rfl | rfl <;>
    · simp (disch := omega) only [↓K_mod, ↓G_mod, ↓P_mod, ↓al_144 _, ↓as_144, ↓if_pos, ↓if_neg, ↓oC_of (m_232 _ _ _ _ _), ↓oC_of (m_252 r _ _ _ _ _ _), w32_id]
      refine Ok_mono (fi 0 _ ?_) (fun v g2 q => ⟨q.1, q.2.1, FM_tr (FM_wr g _ (by omega) (by omega)) q.2.2⟩)
      exact RM_us r _ (by omega)
  · rcases hm with rfl | rfl <;>
    · simp (disch := omega) only [↓K_mod, ↓G_mod, ↓P_mod, ↓al_144 _, ↓as_144, ↓if_pos, ↓if_neg, ↓oC_of q270, w32_id, rr, Int.reduceAdd]
      refine Ok_mono (fi 0 _ ?_) (fun v g2 q => ⟨q.1, q.2.1, FM_tr (FM_wr g _ (by omega) (by omega)) q.2.2⟩)
      exact RM_us r _ (by omega)
  · rcases hm with rfl | rfl <;>
    · simp (disch := omega) only [↓K_mod, ↓G_mod, ↓P_mod, ↓al_144 _, ↓as_144, ↓if_pos, ↓if_neg, ↓oC_of q270, w32_id, rr, Int.reduceAdd]
      refine Ok_mono (fi 0 _ ?_) (fun v g2 q => ⟨q.1, q.2.1, FM_tr (FM_wr g _ (by omega) (by omega)) q.2.2⟩)
      exact RM_us r _ (by omega)
  · rcases hm with rfl | rfl <;>
    · simp (disch := omega) only [↓K_mod, ↓G_mod, ↓P_mod, ↓al_144 _, ↓as_144, ↓if_pos, ↓if_neg]
      refine Ok_bind q277 ?_
      rintro v g1 ⟨rfl, q2, q3⟩
      exact Ok_mono (fi v g1 q2) (fun v g2 q => ⟨q.1, q.2.1, FM_tr q3 q.2.2⟩)
/-- what an ACT leaves holds what holds -/
theorem Iv_fin (hi : Iv N s) (hd : s 6 ≠ -1) {y B' : Int → Int} (R : acR s y B') {w o : Int} (hwo : (w = s 6 ∧ o = s 7) ∨ (w = s 7 ∧ o = s 6)) (h0 : 0 ≤ B' 0) (h0' : B' 0 ≤ mn s (s 6) 2) (h1 : 0 ≤ B' 1) (h1' : B' 1 ≤ mn s (s 7) 2) (h2 : 0 ≤ B' 2) (h2' : B' 2 ≤ beY s (mn s (s 6) 3)) (h3 : 0 ≤ B' 3) (h3' : B' 3 ≤ beY s (mn s (s 7) 3)) (h4 : 0 ≤ B' 4) (h5 : B' 4 < B' 5) (h5' : B' 5 ≤ s 2) (h6 : 0 ≤ B' 6) (h6' : B' 6 ≤ N + 1) (h7 : w = s 6 → 0 < B' 0) (h8 : w = s 7 → 0 < B' 1) : Iv (N + 1) (fin y w o) := by
  have hi' := hi
  obtain ⟨i0, i1, i2, i3, j2, j3, j4, j5, j6, j7, j8, j9, it, im, iw, ia, ih, i6, iu⟩ := hi
  obtain ⟨u0, u1, u2, u3, u4, u5, u6, u7, u8, u9, u10, u11⟩ := iu hd
  obtain ⟨Rk, R8, R9, R10, Rm, Rw, Rt⟩ := R
  have hw : 0 ≤ w ∧ w < s 1 ∧ 0 ≤ o ∧ o < s 1 := by rcases hwo with ⟨rfl, rfl⟩ | ⟨rfl, rfl⟩ <;> omega
  have k0 := Rk 0 (by omega) (by omega)
  have k1 := Rk 1 (by omega) (by omega)
  have k2 := Rk 2 (by omega) (by omega)
  have k3 := Rk 3 (by omega) (by omega)
  have k4 := Rk 4 (by omega) (by omega)
  have k5 := Rk 5 (by omega) (by omega)
  have k6 := Rk 6 (by omega) (by omega)
  have k7 := Rk 7 (by omega) (by omega)
  have bb := fun t a b => (be_rng hi' (t := t) a b).2.2.1
  have yt : ∀ t, 0 ≤ t → t < s 0 → 1 ≤ th y t 0 ∧ th y t 0 ≤ 6 ∧ 0 ≤ th y t 1 ∧ th y t 1 ≤ 9 ∧ 1 ≤ th y t 2 ∧ th y t 2 ≤ 30 ∧ 0 ≤ th y t 3 ∧ th y t 3 ≤ th y t 2 := by
    intro t a b
    obtain ⟨q0, q1, q2, q3⟩ := Rt t a b
    have q4 := it t a b
    have q5 := bb t (by omega) b (by omega)
    rw [q0, q1, q2, q3]
    clear it im iw ia ih iu Rk Rm Rw Rt bb
    by_cases e1 : t = mn s (s 6) 3
    · rw [if_pos e1]; rw [← e1] at h2'; omega
    · rw [if_neg e1]
      by_cases e2 : t = mn s (s 7) 3
      · rw [if_pos e2]; rw [← e2] at h3'; omega
      · rw [if_neg e2]; omega
  have ym : ∀ m, 0 ≤ m → m < s 1 → 0 ≤ mn y m 0 ∧ mn y m 0 ≤ 9 ∧ 0 ≤ mn y m 1 ∧ mn y m 1 ≤ mn y m 2 ∧ 1 ≤ mn y m 2 ∧ mn y m 2 ≤ 60 ∧ -1 ≤ mn y m 3 ∧ mn y m 3 < s 0 := by
    intro m a b
    obtain ⟨q0, q1, q2, q3⟩ := Rm m a b
    have q4 := im m a b
    rw [q0, q1, q2, q3]
    clear it im iw ia ih iu Rk Rm Rw Rt bb yt
    by_cases e1 : m = s 6
    · subst e1; rw [if_pos rfl]; omega
    · rw [if_neg e1]
      by_cases e2 : m = s 7
      · subst e2; rw [if_pos rfl]; omega
      · rw [if_neg e2]; omega
  have ya : awN y = awN s := by
    unfold awN
    rw [k1]
    refine su_congr _ _ _ _ (fun i a b => ?_)
    unfold woN
    rw [k1]
    exact su_congr _ _ _ _ (fun j c e => Rw i j (by omega) (by omega) (by omega) (by omega))
  have yh : ∀ m p, 0 ≤ m → m < s 1 → 0 ≤ p → p < s 1 → m ≠ p → mn y m 3 = mn y p 3 → mn y m 3 = -1 := by
    intro m p a b c e f
    rw [(Rm m a b).2.2.1, (Rm p c e).2.2.1]
    exact ih m p a b c e f
  unfold fin
  by_cases z : mn y o 1 = 0
  · rw [if_pos z]
    obtain ⟨g0, g1, g2, g3, g4, g5⟩ := enA_get y (w := w) (o := o) hw.1 hw.2.2.1 (by omega)
    have c0 := g0 0 (by omega) (by omega)
    have c1 := g0 1 (by omega) (by omega)
    have c2 := g0 2 (by omega) (by omega)
    have c3 := g0 3 (by omega) (by omega)
    have c4 := g0 4 (by omega) (by omega)
    have c5 := g0 5 (by omega) (by omega)
    have aw : awN (enA y w o) = awN y + 1 := by
      unfold awN
      rw [c1]
      refine su_upd _ _ w _ _ (fun j a b c => ?_) ?_ hw.1 (by omega)
      · unfold woN
        rw [c1]
        exact su_congr _ _ _ _ (fun p e f => by rw [g5 j p a (by omega) (by omega), if_neg (fun x => c x.1)])
      · show woN (enA y w o) w = woN y w + 1
        unfold woN
        rw [c1]
        refine su_upd _ _ o _ _ (fun j a b c => ?_) ?_ hw.2.2.1 (by omega)
        · show mn (enA y w o) w (4 + j) = mn y w (4 + j)
          rw [g5 w j hw.1 (by omega) (by omega), if_neg (fun x => c x.2)]
        · show mn (enA y w o) w (4 + o) = mn y w (4 + o) + 1
          rw [g5 w o hw.1 (by omega) (by omega), if_pos ⟨rfl, rfl⟩]
    unfold Iv
    rw [c0, c1, c2, c3, c4, c5, g1, aw, ya, k0, k1, k2, k3, k4, k5]
    refine ⟨i0, i1, i2, i3, j2, j3, j4, j5, j6, j7, j8, j9, fun t a b => ?_, fun m a b => ?_, fun m p a b c e => ?_, by omega, fun m p a b c e f => ?_, by omega, fun x => absurd rfl x⟩
    · rw [g4 t 0 a (by omega) (by omega) (by omega), g4 t 1 a (by omega) (by omega) (by omega), g4 t 2 a (by omega) (by omega) (by omega), g4 t 3 a (by omega) (by omega) (by omega)]
      exact yt t a b
    · rw [g3 m 0 a (by omega) (by omega), g3 m 1 a (by omega) (by omega), g3 m 2 a (by omega) (by omega), g3 m 3 a (by omega) (by omega)]
      exact ym m a b
    · rw [g5 m p a c (by omega)]
      have v1 := iw w o hw.1 hw.2.1 hw.2.2.1 hw.2.2.2
      have v2 := iw m p a b c e
      rw [Rw m p a b c e, Rw w o hw.1 hw.2.1 hw.2.2.1 hw.2.2.2]
      split <;> omega
    · rw [g3 m 3 a (by omega) (by omega), g3 p 3 c (by omega) (by omega)]
      exact yh m p a b c e f
  · rw [if_neg z]
    have y6 : mn y (s 6) 1 = B' 0 := by rw [(Rm (s 6) u0 u1).2.2.2, if_pos rfl]
    have y7 : mn y (s 7) 1 = B' 1 := by rw [(Rm (s 7) u2 u3).2.2.2, if_neg (by omega), if_pos rfl]
    have yl : 0 < B' 0 ∧ 0 < B' 1 := by
      rcases hwo with ⟨e1, e2⟩ | ⟨e1, e2⟩
      · have := h7 e1
        rw [e2, y7] at z
        omega
      · have := h8 e1
        rw [e2, y6] at z
        omega
    unfold Iv
    rw [k0, k1, k2, k3, k4, k5, k6, k7, R8, R9, R10, ya, y6, y7]
    exact ⟨i0, i1, i2, i3, j2, j3, j4, j5, j6, j7, j8, j9, yt, ym, fun m p a b c e => by rw [Rw m p a b c e]; exact iw m p a b c e, by omega, yh, i6, fun _ => ⟨u0, u1, u2, u3, u4, yl.1, yl.2, h4, h5, h5', h6, h6'⟩⟩
theorem Iv_acS (hi : Iv N s) (hN : N < 900000) (hd : s 6 ≠ -1) (a : Int) (ha : a = 0 ∨ a = 1 ∨ a = 2 ∨ a = 3) (hc : caB (boN s) a) : Iv (N + 1) (acS s a) := by
  have hi' := hi
  obtain ⟨i0, i1, i2, i3, j2, j3, j4, j5, j6, j7, j8, j9, it, im, iw, ia, ih, i6, iu⟩ := hi
  obtain ⟨u0, u1, u2, u3, u4, u5, u6, u7, u8, u9, u10, u11⟩ := iu hd
  have IBs : IB (boN s) := IB_bo hi' (by omega) u0 u1 u2 u3 ⟨u7, u8, u9, u10, u11⟩
  have pr := pl_rng IBs a ha hc
  simp only [bo_all] at pr
  obtain ⟨p0, p0', p1, p1', p2, p2', p3, p3', p4, p5, p5', p6, p7, p8⟩ := pr
  unfold acS
  have hm : s 10 % 2 = 0 ∨ s 10 % 2 = 1 := by omega
  rcases hm with e | e <;> rw [e]
  · have R := ac2_0 hi' hd a ha e
    exact Iv_fin hi' hd R (Or.inl ⟨rfl, rfl⟩) p0 p0' p1 p1' p2 p2' p3 p3' p4 p5 p5' (by omega) (by omega) (fun _ => by have := p7 e; omega) (fun x => absurd x u4)
  · have R := ac2_1 hi' hd a ha e
    exact Iv_fin hi' hd R (Or.inr ⟨rfl, rfl⟩) p0 p0' p1 p1' p2 p2' p3 p3' p4 p5 p5' (by omega) (by omega) (fun x => absurd x.symm u4) (fun _ => by have := p8 e; omega)
end
