/-! THE MODEL ACTS -/
def FM (g g' : Mem) : Prop := ∀ c i, 0 ≤ c → 0 ≤ i → (c ≠ 144 ∨ 104 ≤ i) → rd g' c i = rd g c i
theorem FM_rf (g : Mem) : FM g g := fun _ _ _ _ _ => rfl
theorem FM_tr {g g1 g2 : Mem} (h1 : FM g g1) (h2 : FM g1 g2) : FM g g2 := fun c i a b e => (h2 c i a b e).trans (h1 c i a b e)
theorem FM_wr (g : Mem) {k : Int} (x : Int) (h0 : 0 ≤ k) (h1 : k < 104) : FM g (wr g 144 k x) := fun c i a b e => by
  rcases e with e | e
  · exact rd_wr_ne g k i x (by omega) a e
  · exact rd_wr_ix g x h0 b (by omega)
section
variable {X : Xs} {d : Nat} {g : Mem} {s : Int → Int} {N : Int}
theorem m_254w (r : RM g s) (m : Int) (h1 : 0 ≤ m) (h2 : m < 6) (h3 : -1 ≤ mn s m 3) (h4 : mn s m 3 < 8) : MI X (d + 3) 254 [.inr (.inr 143), .inl m] S0 (ov g) = some (b2i (0 < beY s (mn s m 3)), S0, ov g) := by
  rw [e_254]
  simp (disch := omega) only [↓K_mod, ↓G_mod, ↓al_144 _, ↓oC_of (m_252 r _ _ _ _ _ _)]
  unfold beY
  by_cases ht : mn s m 3 = -1
  · rw [if_pos ht, if_pos ht]; rfl
  · rw [if_neg ht, if_neg ht]
    simp (disch := omega) only [↓K_mod, ↓G_mod, ↓al_144 _, ↓oC_of (m_252 r _ _ _ _ _ _), ↓oC_of (m_253 r _ _ _), ↓if_b2i]
    unfold b2i
    (repeat' split) <;> first | rfl | (exfalso; omega)
theorem m_278 (r : RM g s) : Ok (fun _ g' => RM g' (us (us s 6 (-1)) 7 (-1)) ∧ FM g g') (MI X d 278 [.inr (.inr 143)] S0 (ov g)) := by
  rw [e_278]
  simp (disch := omega) only [↓K_mod, ↓G_mod, ↓P_mod, ↓al_144 _, ↓as_144]
  exact Ok_some ⟨RM_us (RM_us r _ (by omega)) _ (by omega), FM_tr (FM_wr _ _ (by omega) (by omega)) (FM_wr _ _ (by omega) (by omega))⟩
theorem m_279_141 {y : Int → Int} (r : RM g y) (w o v : Int) (h1 : 0 ≤ w) (h2 : w < 6) (h3 : 0 ≤ o) (h4 : o < 6) (h5 : 0 ≤ y 10) (h6 : y 10 < 1000000) (h7 : 0 ≤ mn y w (4 + o)) (h8 : mn y w (4 + o) < 1000000) : Ok (fun z g' => z = v ∧ RM g' (fin (us y 10 (y 10 + 1)) w o) ∧ FM g g') (EI X (d + 2) 279 141 [some (.inr (.inr 143)), none, some (.inl w), some (.inl o), some (.inl v), none] [] S0 (ov g)) := by
  have rr : ∀ i, 0 ≤ i → i < 104 → rd g 144 i = y i := r
  have r1 : RM (wr g 144 10 (y 10 + 1)) (us y 10 (y 10 + 1)) := RM_us r _ (by omega)
  have rr1 : ∀ i, 0 ≤ i → i < 104 → rd (wr g 144 10 (y 10 + 1)) 144 i = us y 10 (y 10 + 1) i := r1
  have e1 : us y 10 (y 10 + 1) (44 + 10 * w + 4 + o) = mn y w (4 + o) := by
    rw [us_ne _ _ (by omega)]; unfold mn; congr 1; omega
  rw [e_279_141]
  simp (disch := omega) only [↓K_mod, ↓G_mod, ↓P_mod, ↓al_144 _, ↓as_144, rr, w32_id, ↓oC_of (m_252 r1 _ _ _ _ _ _), ↓oC_of (m_232 _ _ _ _ _)]
  unfold fin
  by_cases z : mn (us y 10 (y 10 + 1)) o 1 = 0
  · rw [if_pos z, if_pos z]
    simp (disch := omega) only [↓K_mod, ↓G_mod, ↓P_mod, ↓al_144 _, ↓as_144, rr1, w32_id, e1, ↓oC_of (m_232 _ _ _ _ _)]
    refine Ok_bind (m_278 (RM_us r1 _ (by omega))) ?_
    rintro v2 g2 ⟨q1, q2⟩
    refine Ok_some ⟨rfl, ?_, FM_tr (FM_tr (FM_wr g _ (by omega) (by omega)) (FM_wr _ _ (by omega) (by omega))) q2⟩
    unfold enA
    rw [e1]
    exact q1
  · rw [if_neg z, if_neg z]
    exact Ok_some ⟨rfl, r1, FM_wr g _ (by omega) (by omega)⟩
theorem m_277 (r : RM g s) (hi : Iv N s) (hd : s 6 ≠ -1) : Ok (fun v g' => v = am_min (mn s (s (7 - s 10 % 2)) 1) (huB (boN s) (s 10 % 2)) ∧ RM g' (ac1 s 3 (s 10 % 2) (s (6 + s 10 % 2)) (s (7 - s 10 % 2))) ∧ FM g g') (MI X (d + 6) 277 [.inr (.inr 143)] S0 (ov g)) := by
  have rr : ∀ i, 0 ≤ i → i < 104 → rd g 144 i = s i := r
  have hi' := hi
  obtain ⟨i0, i1, i2, i3, j2, j3, j4, j5, j6, j7, j8, j9, it, im, iw, ia, ih, i6, iu⟩ := hi
  obtain ⟨u0, u1, u2, u3, u4, u5, u6, u7, u8, u9, u10, u11⟩ := iu hd
  have hm : s 10 % 2 = 0 ∨ s 10 % 2 = 1 := by omega
  have hw : 0 ≤ s (6 + s 10 % 2) ∧ s (6 + s 10 % 2) < s 1 ∧ 0 ≤ s (7 - s 10 % 2) ∧ s (7 - s 10 % 2) < s 1 := by
    rcases hm with e | e <;> rw [e] <;> simp only [Int.reduceAdd, Int.reduceSub] <;> omega
  have hu : 0 ≤ huB (boN s) (s 10 % 2) := by unfold huB; split <;> omega
  have q276 := m_276 (X := X) (d := d) r hi' hd
  have q271 := m_271 (X := X) (d := d + 4) r u10
  have q270 := m_270 (X := X) (d := d + 5) r u10
  have a7 : rd g 144 (7 - s 10 % 2) = s (7 - s 10 % 2) := rr _ (by omega) (by omega)
  rw [e_277]
  simp (disch := omega) only [↓K_mod, ↓G_mod, ↓P_mod, ↓al_144 _, ↓as_144, ↓oC_of q271, ↓oC_of q270, w32_id, a7]
  clear a7
  generalize s (6 + s 10 % 2) = w at hw q271 ⊢
  generalize s (7 - s 10 % 2) = o at hw ⊢
  obtain ⟨w0, w1, o0, o1⟩ := hw
  obtain ⟨-, -, l0, l1, -, l2, -, -⟩ := im o o0 o1
  obtain ⟨-, -, -, -, -, -, x1, x2⟩ := im w w0 w1
  have bz := (be_rng hi' x1 x2).2.2.2
  have wl : ∀ t, 0 ≤ t → t < s 0 → 0 ≤ th s t 3 ∧ th s t 3 ≤ 30 := fun t a b => by have := it t a b; omega
  clear it im iw ia ih i6 iu hi' u0 u1 u2 u3 u4 u5 u6 j2 j3 j4 j5 j6 j7 j8 j9
  unfold ac1
  simp only [Int.reduceEq, ↓reduceIte]
  generalize huB (boN s) (s 10 % 2) = k at hu q276 ⊢
  have hk : 0 ≤ am_min (mn s o 1) k ∧ am_min (mn s o 1) k ≤ mn s o 1 := by unfold am_min; split <;> omega
  have e1 : s (44 + 10 * o + 1) = mn s o 1 := rfl
  have r1 : RM (wr g 144 (44 + 10 * o + 1) (mn s o 1 - am_min (mn s o 1) k)) (us s (44 + 10 * o + 1) (mn s o 1 - am_min (mn s o 1) k)) := RM_us r _ (by omega)
  have rr1 : ∀ i, 0 ≤ i → i < 104 → rd (wr g 144 (44 + 10 * o + 1) (mn s o 1 - am_min (mn s o 1) k)) 144 i = us s (44 + 10 * o + 1) (mn s o 1 - am_min (mn s o 1) k) i := r1
  have m3 : mn (us s (44 + 10 * o + 1) (mn s o 1 - am_min (mn s o 1) k)) w 3 = mn s w 3 := sl_w _ _ _ _ (Or.inr (Or.inr rfl))
  have t3 : ∀ t v, t < 8 → v < 4 → th (us s (44 + 10 * o + 1) (mn s o 1 - am_min (mn s o 1) k)) t v = th s t v := fun t v a b => sl_t _ _ o0 a b
  have q254 := m_254w (X := X) (d := d + 2) r1 w w0 (by omega) (by rw [m3]; omega) (by rw [m3]; omega)
  have be : beY (us s (44 + 10 * o + 1) (mn s o 1 - am_min (mn s o 1) k)) (mn s w 3) = beY s (mn s w 3) := by
    unfold beY
    rw [t3 _ _ (by omega) (by omega), t3 _ _ (by omega) (by omega)]
  rw [m3, be] at q254
  simp (disch := omega) only [↓K_mod, ↓G_mod, ↓P_mod, ↓al_144 _, ↓as_144, ↓oC_of q276, ↓oC_of (m_232 _ _ _ _ _), rr, w32_id, e1, ↓oC_of q254, ↓if_b2i]
  by_cases z : 0 < beY s (mn s w 3)
  · have z1 := bz z
    have z2 := wl (mn s w 3) (by omega) (by omega)
    have w3 : us s (44 + 10 * o + 1) (mn s o 1 - am_min (mn s o 1) k) (12 + 4 * mn s w 3 + 3) = th s (mn s w 3) 3 := t3 _ _ (by omega) (by omega)
    rw [if_pos z, if_pos z]
    simp (disch := omega) only [↓K_mod, ↓G_mod, ↓P_mod, ↓al_144 _, ↓as_144, ↓oC_of (m_252 r1 _ _ _ _ _ _), m3, ↓oC_of (m_231 _ _ _ _ _), rr1, w32_id, w3]
    exact Ok_some ⟨rfl, RM_us r1 _ (by omega), FM_tr (FM_wr g _ (by omega) (by omega)) (FM_wr _ _ (by omega) (by omega))⟩
  · rw [if_neg z, if_neg z]
    exact Ok_some ⟨rfl, r1, FM_wr g _ (by omega) (by omega)⟩
end
