/-! THE MODEL PLAYS: a level from its beginning to its end -/
theorem SV_FP {L : Int} {g g1 : Mem} {s : Int → Int} (h : FP L g g1) (r : SV g L s) (h0 : 0 ≤ L) : SV g1 L s := fun i a b => by
  rw [h 144 _ (by omega) (by omega) (Or.inr ⟨by omega, by omega⟩) (Or.inl ⟨by omega, by omega, by omega⟩)]
  exact r i a b
theorem SV_RM {L : Int} {g g1 : Mem} {s : Int → Int} (h : ∀ i, 0 ≤ i → i < 104 → rd g1 144 i = rd g 144 (2832 + 104 * L + i)) (r : SV g L s) : RM g1 s := fun i a b => (h i a b).trans (r i a b)
theorem RM_wo {g : Mem} {s : Int → Int} (r : RM g s) {c : Int} (i x : Int) (h0 : 0 ≤ c) (h : c ≠ 144) : RM (wr g c i x) s := fun j a b => by
  rw [rd_wr_ne _ _ _ _ h0 (by omega) (by omega)]; exact r j a b
theorem lfX_eq {y C : Int → Int} {fo f0 s0 side prey : Int} (hfo : fo = 0 ∨ fo = 1) (h0 : mn y f0 1 = C 0) (h1 : mn y s0 1 = C 1) (hs : side = 0 ∨ side = 1) (hp : prey = if side = 0 then s0 else f0) : (if fo = 0 then mn y f0 1 - mn y s0 1 else if mn y prey 1 = 0 then 1 else 0) = lfX fo side C := by
  unfold lfX lfV lfF
  rcases hfo with rfl | rfl
  · simp only [↓reduceIte, h0, h1]
  · rcases hs with rfl | rfl
    · simp only [↓reduceIte, Int.reduceEq] at hp ⊢
      rw [hp, h1, Int.sub_zero]
    · simp only [↓reduceIte, Int.reduceEq] at hp ⊢
      rw [hp, h0, Int.sub_self]
section
variable {X : Xs} {d : Nat}
/-- the loop's head at a level -/
noncomputable def plH (X : Xs) (d : Nat) (turns fo f0 s0 prey shift L : Int) (g : Mem) : Option Rs := EI X (d + 8) 295 101 [some (.inr (.inr 143)), some (.inl turns), some (.inl fo), some (.inl f0), some (.inl s0), some (.inl prey), some (.inl shift), some (.inl L), none] [] S0 (ov g)
/-- from the beginning of a level to its end -/
def plE (X : Xs) (d : Nat) (turns fo f0 s0 prey shift side par T0 : Int) (n : Nat) : Prop := ∀ (L : Int) (s : Int → Int) (N : Int) (g : Mem), 0 ≤ L → L + (n + 1 : Nat) = turns → SV g L s → Iv N s → N + (n + 1 : Nat) < 900000 → s 6 ≠ -1 → s 6 = f0 → s 7 = s0 → s 10 = T0 + L → rd g 152 L = -1 → rd g 154 L = -1 →
  ∃ g', plH X d turns fo f0 s0 prey shift L g = plH X d turns fo f0 s0 prey shift L g' ∧ rd g' 152 L = 3 ∧ rd g' 153 L = vaB (lfX fo side) par (n + 1) (boN s) ∧ rd g' 154 L = chF (decide (s 10 % 2 = par)) (fun a => decide (caB (boN s) a)) (fun a => vaB (lfX fo side) par n (plB (boN s) a)) 3 1 (vaB (lfX fo side) par n (plB (boN s) 0)) 0 ∧ SV g' L s ∧ FP L g g'
theorem pl_step {turns fo f0 s0 prey shift side par T0 : Int} (hfo : fo = 0 ∨ fo = 1) (a0 : 0 ≤ f0) (a1 : f0 < 6) (b0 : 0 ≤ s0) (b1 : s0 < 6) (hs : side = 0 ∨ side = 1) (hp : prey = if side = 0 then s0 else f0) (hsh : shift = 0 ∨ shift = 1) (ht : turns ≤ 8)
    (hpar : ∀ L, 0 ≤ L → ((L + shift) % 2 = 0 ↔ (T0 + L) % 2 = par)) (n : Nat) (IH : ∀ m, n = m + 1 → plE X d turns fo f0 s0 prey shift side par T0 m)
    (L : Int) (s : Int → Int) (N : Int) (L0 : 0 ≤ L) (hL : L + (n + 1 : Nat) = turns) (hi : Iv N s) (hN : N + (n + 1 : Nat) < 900000) (hd : s 6 ≠ -1) (h6 : s 6 = f0) (h7 : s 7 = s0) (h10 : s 10 = T0 + L)
    (a m z : Int) (ha : a = 0 ∨ a = 1 ∨ a = 2 ∨ a = 3) (g : Mem) (sv : SV g L s) (pg : PRG g L a m z) :
    ∃ g', plH X d turns fo f0 s0 prey shift L g = plH X d turns fo f0 s0 prey shift L g' ∧ PRG g' L (a + 1) (nxM (decide (s 10 % 2 = par)) (decide (caB (boN s) a)) (vaB (lfX fo side) par n (plB (boN s) a)) a m) (nxZ (decide (s 10 % 2 = par)) (decide (caB (boN s) a)) (vaB (lfX fo side) par n (plB (boN s) a)) a m z) ∧ SV g' L s ∧ FP L g g' := by
  obtain ⟨t1, t2, t3⟩ := pg
  have hp6 : 0 ≤ prey ∧ prey < 6 := by rw [hp]; split <;> omega
  have hup : ((L + shift) % 2 = 0) ↔ (s 10 % 2 = par) := by rw [h10]; exact hpar L L0
  have hupd : decide ((L + shift) % 2 = 0) = decide (s 10 % 2 = par) := by
    by_cases q : (L + shift) % 2 = 0
    · simp only [q, hup.mp q, decide_true]
    · have : ¬ s 10 % 2 = par := fun y => q (hup.mpr y)
      simp only [q, this, decide_false]
  obtain ⟨v2, g2, e2, q2a, q2b⟩ := m_292 (X := X) (d := d + 7) g (2832 + 104 * L) (by omega) (by omega)
  have r2 : RM g2 s := SV_RM q2a sv
  have sv2 : SV g2 L s := SV_FP (FP_FM q2b) sv L0
  have t12 : rd g2 152 L = a - 1 := by rw [q2b 152 L (by omega) L0 (by omega)]; exact t1
  have r3 : RM (wr g2 152 L a) s := RM_wo r2 _ _ (by omega) (by omega)
  have f3 : FP L g (wr g2 152 L a) := FP_tr (FP_FM q2b) (FP_wr g2 _ (by omega) (Int.le_refl _) L0)
  have e275 := m_275 (X := X) (d := d + 2) r3 hi hd a (by omega) (by omega)
  have t43 : ∀ c, c = 153 ∨ c = 154 → rd (wr g2 152 L a) c L = rd g c L := fun c hc => by
    rw [rd_wr_ne _ _ _ _ (by omega) (by omega) (by omega), q2b c L (by omega) L0 (by omega)]
  have go : plH X d turns fo f0 s0 prey shift L g = if caB (boN s) a then (oC (MI X (d + 7) 279 [.inr (.inr 143), .inl a] S0 (ov (wr g2 152 L a))) fun r13 S13 m13 => if kd S13 143 = 11 then (oC (MI X (d + 7) 268 [.inr (.inr 143)] S13 m13) fun r14 S14 m14 => if r14 = 0 then EI X (d + 8) 295 251 [some (.inr (.inr 143)), some (.inl turns), some (.inl fo), some (.inl f0), some (.inl s0), some (.inl prey), some (.inl shift), some (.inl L), none] [] S14 m14 else if (w32 (L + 1)) < turns then oC (MI X (d + 7) 293 [.inl (w32 (L + 1))] S14 m14) fun r15 S15 m15 => if kd S15 143 = 11 then (oC (MI X (d + 7) 291 [.inr (.inr 143), .inl r15] S15 m15) fun r16 S16 m16 => oK (getf S16 m16 11 143 24) none fun x17 => oK (ast S16 m16 20 x17 (w32 (L + 1)) (-1)) none fun h18 => oK (getf S16 h18 11 143 26) none fun x19 => oK (ast S16 h18 20 x19 (w32 (L + 1)) (-1)) none fun h20 => EI X (d + 8) 295 101 [some (.inr (.inr 143)), some (.inl turns), some (.inl fo), some (.inl f0), some (.inl s0), some (.inl prey), some (.inl shift), some (.inl (w32 (L + 1))), none] [] S16 h20) else none else EI X (d + 8) 295 251 [some (.inr (.inr 143)), some (.inl turns), some (.inl fo), some (.inl f0), some (.inl s0), some (.inl prey), some (.inl shift), some (.inl L), none] [] S14 m14) else none) else plH X d turns fo f0 s0 prey shift L (wr g2 152 L a) := by
    unfold plH
    rw [e_295_101, oC_of (m_293 L L0 (by omega) _ _), K_mod, oC_of e2]
    rw [(G_mod g2 _ _).2.2.2.2.2.2.2.2.2.2.2.2.2.2.2.2.2.2.2.2.2.2.2.2.1]
    rw [al_152 X g2 L0 (by omega), t12, show w32 (a - 1 + 1) = a by rw [w32_id (by omega) (by omega)]; omega, as_152 g2 a L0 (by omega)]
    rw [(G_mod (wr g2 152 L a) _ _).2.2.2.2.2.2.2.2.2.2.2.2.2.2.2.2.2.2.2.2.2.2.2.2.1]
    rw [al_152 X _ L0 (by omega), rd_wr_eq, if_neg (by omega)]
    rw [(G_mod (wr g2 152 L a) _ _).2.2.2.2.2.2.2.2.2.2.2.2.2.2.2.2.2.2.2.2.2.2.2.2.1]
    rw [al_152 X _ L0 (by omega), rd_wr_eq, K_mod, oC_of e275, if_b2i]
    by_cases hc : caB (boN s) a
    · rw [if_pos hc, if_pos hc]
      rw [(G_mod (wr g2 152 L a) _ _).2.2.2.2.2.2.2.2.2.2.2.2.2.2.2.2.2.2.2.2.2.2.2.2.1]
      rw [al_152 X _ L0 (by omega), rd_wr_eq, K_mod]
    · rw [if_neg hc, if_neg hc]
  rw [go]
  clear go
  by_cases hc : caB (boN s) a
  case neg =>
    have an : a ≠ 0 := fun e => hc (by rw [e]; exact caB_0 _)
    rw [if_neg hc]
    refine ⟨_, rfl, ?_, SV_FP f3 sv L0, f3⟩
    obtain ⟨w1, w2, w3⟩ := t3 (by omega)
    unfold PRG nxM nxZ
    simp only [hc, an, ↓reduceIte, decide_false, cond_false, Bool.false_and]
    exact ⟨by rw [rd_wr_eq]; omega, fun q => by omega, fun _ => ⟨by rw [t43 153 (Or.inl rfl)]; exact w1, by rw [t43 154 (Or.inr rfl)]; exact w2, w3⟩⟩
  rw [if_pos hc]
  obtain ⟨v4, g4, e4, -, r4, q4⟩ := m_279 (X := X) (d := d) r3 hi (by omega) hd a ha
  obtain ⟨l6, l7, lov, lon⟩ := acS_life hi (by omega) hd a ha hc
  have hi4 := Iv_acS hi (by omega) hd a ha hc
  rw [h6] at l6
  rw [h7] at l7
  have f4 : FP L g g4 := FP_tr f3 (FP_FM q4)
  have s4 : ∀ c, c = 153 ∨ c = 154 → rd g4 c L = rd g c L := fun c hc => by rw [q4 c L (by omega) L0 (by omega), t43 c hc]
  have s42 : rd g4 152 L = a := by rw [q4 152 L (by omega) L0 (by omega), rd_wr_eq]
  have u01 := hi.2.2.2.1
  have mr : 0 ≤ mn (acS s a) f0 1 ∧ mn (acS s a) f0 1 ≤ 60 ∧ 0 ≤ mn (acS s a) s0 1 ∧ mn (acS s a) s0 1 ≤ 60 := by
    have IBs : IB (boN s) := by
      obtain ⟨i0, i1, i2, i3, j2, j3, j4, j5, j6, j7, j8, j9, it, im, iw, ia, ih, i6, iu⟩ := id hi
      obtain ⟨u0, u1, u2, u3, u4, u5, u6, u7, u8, u9, u10, u11⟩ := iu hd
      exact IB_bo hi (by omega) u0 u1 u2 u3 ⟨u7, u8, u9, u10, u11⟩
    have pr := pl_rng IBs a ha hc
    unfold IB at IBs
    rw [l6, l7]
    omega
  rw [oC_of e4, K_mod, oC_of (m_268 r4), if_b2i]
  have leafE : ∀ (hv : vaB (lfX fo side) par n (plB (boN s) a) = lfX fo side (plB (boN s) a)), ∃ g', EI X (d + 8) 295 251 [some (.inr (.inr 143)), some (.inl turns), some (.inl fo), some (.inl f0), some (.inl s0), some (.inl prey), some (.inl shift), some (.inl L), none] [] S0 (ov g4) = plH X d turns fo f0 s0 prey shift L g' ∧ PRG g' L (a + 1) (nxM (decide (s 10 % 2 = par)) (decide (caB (boN s) a)) (vaB (lfX fo side) par n (plB (boN s) a)) a m) (nxZ (decide (s 10 % 2 = par)) (decide (caB (boN s) a)) (vaB (lfX fo side) par n (plB (boN s) a)) a m z) ∧ SV g' L s ∧ FP L g g' := by
    intro hv
    have q := m_295_251 (X := X) (d := d + 5) r4 turns fo f0 s0 prey shift L hfo a0 a1 b0 b1 hp6.1 hp6.2 L0 (by omega) hsh mr.1 mr.2.1 mr.2.2.1 mr.2.2.2
    rw [lfX_eq hfo l6 l7 hs hp, ← hv] at q
    refine ⟨_, q, ?_, SV_FP (FP_tr f4 (FP_setl g4 _ _ L0)) sv L0, FP_tr f4 (FP_setl g4 _ _ L0)⟩
    rw [← hupd]
    simp only [hc, decide_true]
    exact setl_prg _ L0 (by omega) s42 (fun e => by rw [s4 154 (Or.inr rfl)]; exact t2 e) (fun e => by rw [s4 153 (Or.inl rfl), s4 154 (Or.inr rfl)]; exact t3 e)
  by_cases ho : plB (boN s) a 0 = 0 ∨ plB (boN s) a 1 = 0
  · rw [if_neg (by rw [lov ho]; simp)]
    refine leafE ?_
    cases n with
    | zero => rfl
    | succ n => unfold vaB; rw [if_pos ho]
  · obtain ⟨o1, o2, o3, o4⟩ := lon ho
    rw [if_pos (by rw [o2]; exact hd), w32_id (by omega) (by omega)]
    cases n with
    | zero =>
      rw [if_neg (by omega)]
      exact leafE rfl
    | succ n =>
      rw [if_pos (by omega), oC_of (m_293 (L + 1) (by omega) (by omega) _ _), K_mod]
      obtain ⟨v5, g5, e5, q5a, q5b⟩ := m_291 (X := X) (d := d + 7) g4 (2832 + 104 * (L + 1)) (by omega) (by omega)
      rw [oC_of e5]
      rw [(G_mod g5 _ _).2.2.2.2.2.2.2.2.2.2.2.2.2.2.2.2.2.2.2.2.2.2.2.2.1]
      rw [as_152 g5 _ (by omega) (by omega)]
      rw [(G_mod (wr g5 152 (L + 1) (-1)) _ _).2.2.2.2.2.2.2.2.2.2.2.2.2.2.2.2.2.2.2.2.2.2.2.2.2.2.1]
      rw [as_154 _ _ (by omega) (by omega)]
      have q5c : FP (L + 1) g4 g4 := fun _ _ _ _ _ _ => rfl
      have sv6 : SV (wr (wr g5 152 (L + 1) (-1)) 154 (L + 1) (-1)) (L + 1) (acS s a) := fun i h1 h2 => by
        rw [rd_wr_ne _ _ _ _ (by omega) (by omega) (by omega), rd_wr_ne _ _ _ _ (by omega) (by omega) (by omega), q5a i h1 h2]
        exact r4 i h1 h2
      obtain ⟨g7, e7, w1, w2, w3, w4, w5⟩ := IH n rfl (L + 1) (acS s a) (N + 1) (wr (wr g5 152 (L + 1) (-1)) 154 (L + 1) (-1)) (by omega) (by omega) sv6 hi4 (by omega) (by rw [o2]; exact hd) (by rw [o2]; exact h6) (by rw [o3]; exact h7) (by
        have := congrFun o4 6
        rw [(pl_all (boN s) a ha).2.2.1] at this
        simp only [bo_all] at this
        omega) (by rw [rd_wr_ne _ _ _ _ (by omega) (by omega) (by omega), rd_wr_eq]) (by rw [rd_wr_eq])
      unfold plH at e7
      rw [e7]
      rw [o4] at w2
      obtain ⟨v8, g8, e8, q8a, q8b⟩ := m_292 (X := X) (d := d + 7) g7 (2832 + 104 * (L + 1)) (by omega) (by omega)
      have k7 : ∀ c, c = 152 ∨ c = 153 ∨ c = 154 → rd g7 c L = rd g4 c L := fun c hc => by
        rw [w5 c L (by omega) L0 (by omega) (Or.inr (by omega)), rd_wr_ix _ _ (by omega) L0 (by omega), rd_wr_ix _ _ (by omega) L0 (by omega), q5b c L (by omega) L0 (by omega)]
      have f7 : FP L g g7 := by
        refine FP_tr f4 (FP_tr ?_ (FP_up w5))
        intro c i h1 h2 h3 h4
        have e56 : rd (wr (wr g5 152 (L + 1) (-1)) 154 (L + 1) (-1)) c i = rd g5 c i := by
          rcases h4 with h4 | h4
          · rw [rd_wr_ne _ _ _ _ (by omega) h1 (by omega), rd_wr_ne _ _ _ _ (by omega) h1 (by omega)]
          · rw [rd_wr_ix _ _ (by omega) h2 (by omega), rd_wr_ix _ _ (by omega) h2 (by omega)]
        rw [e56]
        exact q5b c i h1 h2 (by omega)
      have f8 : FP L g g8 := FP_tr f7 (FP_FM q8b)
      have k8 : ∀ c, c = 152 ∨ c = 153 ∨ c = 154 → ∀ i, 0 ≤ i → rd g8 c i = rd g7 c i := fun c hc i h => q8b c i (by omega) h (by omega)
      rw [e_295_101, oC_of (m_293 (L + 1) (by omega) (by omega) _ _), K_mod, oC_of e8]
      rw [(G_mod g8 _ _).2.2.2.2.2.2.2.2.2.2.2.2.2.2.2.2.2.2.2.2.2.2.2.2.1]
      rw [al_152 X g8 (by omega) (by omega), k8 152 (Or.inl rfl) _ (by omega), w1, show w32 (3 + 1) = 4 from rfl, as_152 g8 4 (by omega) (by omega)]
      rw [(G_mod (wr g8 152 (L + 1) 4) _ _).2.2.2.2.2.2.2.2.2.2.2.2.2.2.2.2.2.2.2.2.2.2.2.2.1]
      rw [al_152 X _ (by omega) (by omega), rd_wr_eq, if_pos rfl, if_neg (by omega)]
      rw [(G_mod (wr g8 152 (L + 1) 4) _ _).2.2.2.2.2.2.2.2.2.2.2.2.2.2.2.2.2.2.2.2.2.2.2.2.2.1]
      have wl : w32 (L + 1 + -1) = L := by rw [w32_id (by omega) (by omega)]; omega
      have b9 : rd (wr g8 152 (L + 1) 4) 153 (L + 1) = vaB (lfX fo side) par (n + 1) (plB (boN s) a) := by
        rw [rd_wr_ne _ _ _ _ (by omega) (by omega) (by omega), k8 153 (Or.inr (Or.inl rfl)) _ (by omega)]; exact w2
      rw [wl, w32_id (x := L + 1) (by omega) (by omega), al_153 X _ (by omega) (by omega), b9, w32_id (x := L + shift) (by omega) (by omega), tmod2 (by omega)]
      have f9 : FP L g (wr g8 152 (L + 1) 4) := FP_tr f8 (FP_wr g8 _ (by omega) (by omega) L0)
      have p9 : PRG (setl (wr g8 152 (L + 1) 4) ((L + shift) % 2 = 0) L (vaB (lfX fo side) par (n + 1) (plB (boN s) a))) L (a + 1) (nxM (decide ((L + shift) % 2 = 0)) true (vaB (lfX fo side) par (n + 1) (plB (boN s) a)) a m) (nxZ (decide ((L + shift) % 2 = 0)) true (vaB (lfX fo side) par (n + 1) (plB (boN s) a)) a m z) := by
        have kk : ∀ c, c = 152 ∨ c = 153 ∨ c = 154 → rd (wr g8 152 (L + 1) 4) c L = rd g4 c L := fun c hc => by
          rw [rd_wr_ix _ _ (by omega) L0 (by omega), k8 c hc L L0, k7 c hc]
        exact setl_prg _ L0 (by omega) (by rw [kk 152 (Or.inl rfl)]; exact s42) (fun e => by rw [kk 154 (Or.inr (Or.inr rfl)), s4 154 (Or.inr rfl)]; exact t2 e) (fun e => by rw [kk 153 (Or.inr (Or.inl rfl)), kk 154 (Or.inr (Or.inr rfl)), s4 153 (Or.inl rfl), s4 154 (Or.inr rfl)]; exact t3 e)
      refine ⟨setl (wr g8 152 (L + 1) 4) ((L + shift) % 2 = 0) L (vaB (lfX fo side) par (n + 1) (plB (boN s) a)), ?_, ?_, SV_FP (FP_tr f9 (FP_setl _ _ _ L0)) sv L0, FP_tr f9 (FP_setl _ _ _ L0)⟩
      · have e2' : ∀ w : Int, ((L + shift) % 2 = 0 ↔ w = 1) → ∀ x, setl (wr g8 152 (L + 1) 4) (w = 1) L x = setl (wr g8 152 (L + 1) 4) ((L + shift) % 2 = 0) L x := by
          intro w h x
          unfold setl
          by_cases q : w = 1
          · have q2 := h.mpr q
            simp only [q, q2, ↓reduceIte]
          · have q2 : ¬ (L + shift) % 2 = 0 := fun z => q (h.mp z)
            simp only [q, q2, ↓reduceIte]
        by_cases q : (L + shift) % 2 = 0
        · rw [if_pos q, K_mod, oC_of (m_294 _ L _ 1 (Or.inr rfl) L0 (by omega)), e2' 1 (by omega)]
          rfl
        · rw [if_neg q, K_mod, oC_of (m_294 _ L _ 0 (Or.inl rfl) L0 (by omega)), e2' 0 (by omega)]
          rfl
      · rw [hupd] at p9
        simp only [hc, decide_true]
        exact p9
end
