/-! the constructors: the model -/
theorem f_195 (X : Xs) (d : Nat) (v0 : Int) (S : Sh) (h : Mem) : MI X (d + 1) 195 [.inr (.inr v0)] S h = if kd S v0 = 11 then EI X (d + 1) 195 4 [some (.inr (.inr v0))] [] S h else none := (show MI X (d + 1) 195 [.inr (.inr v0)] S h = EI X (d + 1) 195 0 [some (.inr (.inr v0))] [] S h from rfl).trans ((EI_run X (d + 1) 195 2 0 _ [] S h).trans rfl)
theorem f_195_4 (X : Xs) (d : Nat) (l0 : Int) (S : Sh) (h : Mem) : EI X (d + 1) 195 4 [some (.inr (.inr l0))] [] S h = oK (unV 2 (.inr (.inr (S.length : Int)))) none fun x2 => oK (putf (S ++ [(20, 3768)]) h 11 l0 0 x2) none fun h1 => EI X (d + 1) 195 13 [some (.inr (.inr l0))] [] (S ++ [(20, 3768)]) h1 := (EI_run X (d + 1) 195 4 4 _ _ S h).trans rfl
theorem f_195_13 (X : Xs) (d : Nat) (l0 : Int) (S : Sh) (h : Mem) : EI X (d + 1) 195 13 [some (.inr (.inr l0))] [] S h = oK (unV 2 (.inr (.inr (S.length : Int)))) none fun x2 => oK (putf (S ++ [(21, 84)]) h 11 l0 1 x2) none fun h1 => EI X (d + 1) 195 21 [some (.inr (.inr l0))] [] (S ++ [(21, 84)]) h1 := (EI_run X (d + 1) 195 4 13 _ _ S h).trans rfl
theorem f_195_21 (X : Xs) (d : Nat) (l0 : Int) (S : Sh) (h : Mem) : EI X (d + 1) 195 21 [some (.inr (.inr l0))] [] S h = oK (putf S h 11 l0 4 1) none fun h1 => EI X (d + 1) 195 26 [some (.inr (.inr l0))] [] S h1 := (EI_run X (d + 1) 195 3 21 _ _ S h).trans rfl
theorem f_195_26 (X : Xs) (d : Nat) (l0 : Int) (S : Sh) (h : Mem) : EI X (d + 1) 195 26 [some (.inr (.inr l0))] [] S h = oK (unV 2 (.inr (.inr (S.length : Int)))) none fun x2 => oK (putf (S ++ [(20, 4)]) h 11 l0 5 x2) none fun h1 => EI X (d + 1) 195 33 [some (.inr (.inr l0))] [] (S ++ [(20, 4)]) h1 := (EI_run X (d + 1) 195 4 26 _ _ S h).trans rfl
theorem f_195_33 (X : Xs) (d : Nat) (l0 : Int) (S : Sh) (h : Mem) : EI X (d + 1) 195 33 [some (.inr (.inr l0))] [] S h = oK (ast (S ++ [(20, 4)]) h 20 (S.length : Int) 0 (-1)) none fun h1 => oK (ast (S ++ [(20, 4)]) h1 20 (S.length : Int) 1 (-1)) none fun h2 => oK (ast (S ++ [(20, 4)]) h2 20 (S.length : Int) 2 (-1)) none fun h3 => oK (ast (S ++ [(20, 4)]) h3 20 (S.length : Int) 3 (-1)) none fun h4 => oK (unV 2 (.inr (.inr (S.length : Int)))) none fun x6 => oK (putf (S ++ [(20, 4)]) h4 11 l0 6 x6) none fun h5 => EI X (d + 1) 195 56 [some (.inr (.inr l0))] [] (S ++ [(20, 4)]) h5 := (EI_run X (d + 1) 195 20 33 _ _ S h).trans rfl
theorem f_195_56 (X : Xs) (d : Nat) (l0 : Int) (S : Sh) (h : Mem) : EI X (d + 1) 195 56 [some (.inr (.inr l0))] [] S h = oK (unV 2 (.inr (.inr (S.length : Int)))) none fun x2 => oK (putf (S ++ [(21, 240)]) h 11 l0 7 x2) none fun h1 => EI X (d + 1) 195 65 [some (.inr (.inr l0))] [] (S ++ [(21, 240)]) h1 := (EI_run X (d + 1) 195 4 56 _ _ S h).trans rfl
theorem f_195_65 (X : Xs) (d : Nat) (l0 : Int) (S : Sh) (h : Mem) : EI X (d + 1) 195 65 [some (.inr (.inr l0))] [] S h = oK (unV 2 (.inr (.inr (S.length : Int)))) none fun x2 => oK (putf (S ++ [(22, 900)]) h 11 l0 8 x2) none fun h1 => EI X (d + 1) 195 74 [some (.inr (.inr l0))] [] (S ++ [(22, 900)]) h1 := (EI_run X (d + 1) 195 4 65 _ _ S h).trans rfl
theorem f_195_74 (X : Xs) (d : Nat) (l0 : Int) (S : Sh) (h : Mem) : EI X (d + 1) 195 74 [some (.inr (.inr l0))] [] S h = oK (unV 2 (.inr (.inr (S.length : Int)))) none fun x2 => oK (putf (S ++ [(22, 900)]) h 11 l0 9 x2) none fun h1 => EI X (d + 1) 195 83 [some (.inr (.inr l0))] [] (S ++ [(22, 900)]) h1 := (EI_run X (d + 1) 195 4 74 _ _ S h).trans rfl
theorem f_195_83 (X : Xs) (d : Nat) (l0 : Int) (S : Sh) (h : Mem) : EI X (d + 1) 195 83 [some (.inr (.inr l0))] [] S h = oK (putf S h 11 l0 16 (-1)) none fun h1 => EI X (d + 1) 195 88 [some (.inr (.inr l0))] [] S h1 := (EI_run X (d + 1) 195 3 83 _ _ S h).trans rfl
theorem f_195_88 (X : Xs) (d : Nat) (l0 : Int) (S : Sh) (h : Mem) : EI X (d + 1) 195 88 [some (.inr (.inr l0))] [] S h = oK (putf S h 11 l0 17 (-1)) none fun h1 => EI X (d + 1) 195 93 [some (.inr (.inr l0))] [] S h1 := (EI_run X (d + 1) 195 3 88 _ _ S h).trans rfl
theorem f_195_93 (X : Xs) (d : Nat) (l0 : Int) (S : Sh) (h : Mem) : EI X (d + 1) 195 93 [some (.inr (.inr l0))] [] S h = oK (unV 2 (.inr (.inr (S.length : Int)))) none fun x2 => oK (putf (S ++ [(20, 3)]) h 11 l0 21 x2) none fun h1 => EI X (d + 1) 195 100 [some (.inr (.inr l0))] [] (S ++ [(20, 3)]) h1 := (EI_run X (d + 1) 195 4 93 _ _ S h).trans rfl
theorem f_195_100 (X : Xs) (d : Nat) (l0 : Int) (S : Sh) (h : Mem) : EI X (d + 1) 195 100 [some (.inr (.inr l0))] [] S h = oK (unV 2 (.inr (.inr (S.length : Int)))) none fun x2 => oK (putf (S ++ [(20, 9)]) h 11 l0 24 x2) none fun h1 => EI X (d + 1) 195 108 [some (.inr (.inr l0))] [] (S ++ [(20, 9)]) h1 := (EI_run X (d + 1) 195 4 100 _ _ S h).trans rfl
theorem f_195_108 (X : Xs) (d : Nat) (l0 : Int) (S : Sh) (h : Mem) : EI X (d + 1) 195 108 [some (.inr (.inr l0))] [] S h = oK (unV 2 (.inr (.inr (S.length : Int)))) none fun x2 => oK (putf (S ++ [(20, 9)]) h 11 l0 25 x2) none fun h1 => EI X (d + 1) 195 116 [some (.inr (.inr l0))] [] (S ++ [(20, 9)]) h1 := (EI_run X (d + 1) 195 4 108 _ _ S h).trans rfl
theorem f_195_116 (X : Xs) (d : Nat) (l0 : Int) (S : Sh) (h : Mem) : EI X (d + 1) 195 116 [some (.inr (.inr l0))] [] S h = oK (unV 2 (.inr (.inr (S.length : Int)))) none fun x2 => oK (putf (S ++ [(20, 9)]) h 11 l0 26 x2) none fun h1 => EI X (d + 1) 195 124 [some (.inr (.inr l0))] [] (S ++ [(20, 9)]) h1 := (EI_run X (d + 1) 195 4 116 _ _ S h).trans rfl
theorem f_195_124 (X : Xs) (d : Nat) (l0 : Int) (S : Sh) (h : Mem) : EI X (d + 1) 195 124 [some (.inr (.inr l0))] [] S h = oK (unV 2 (.inr (.inr (S.length : Int)))) none fun x2 => oK (putf (S ++ [(20, 3)]) h 11 l0 27 x2) none fun h1 => EI X (d + 1) 195 131 [some (.inr (.inr l0))] [] (S ++ [(20, 3)]) h1 := (EI_run X (d + 1) 195 4 124 _ _ S h).trans rfl
theorem f_195_131 (X : Xs) (d : Nat) (l0 : Int) (S : Sh) (h : Mem) : EI X (d + 1) 195 131 [some (.inr (.inr l0))] [] S h = oK (unV 2 (.inr (.inr (S.length : Int)))) none fun x2 => oK (putf (S ++ [(20, 1792)]) h 11 l0 28 x2) none fun h1 => EI X (d + 1) 195 140 [some (.inr (.inr l0))] [] (S ++ [(20, 1792)]) h1 := (EI_run X (d + 1) 195 4 131 _ _ S h).trans rfl
theorem f_195_140 (X : Xs) (d : Nat) (l0 : Int) (S : Sh) (h : Mem) : EI X (d + 1) 195 140 [some (.inr (.inr l0))] [] S h = oK (unV 2 (.inr (.inr (S.length : Int)))) none fun x2 => oK (putf (S ++ [(21, 13)]) h 11 l0 29 x2) none fun h1 => EI X (d + 1) 195 148 [some (.inr (.inr l0))] [] (S ++ [(21, 13)]) h1 := (EI_run X (d + 1) 195 4 140 _ _ S h).trans rfl
theorem f_195_148 (X : Xs) (d : Nat) (l0 : Int) (S : Sh) (h : Mem) : EI X (d + 1) 195 148 [some (.inr (.inr l0))] [] S h = oK (unV 2 (.inr (.inr (S.length : Int)))) none fun x2 => oK (putf (S ++ [(20, 2)]) h 11 l0 30 x2) none fun h1 => EI X (d + 1) 195 155 [some (.inr (.inr l0))] [] (S ++ [(20, 2)]) h1 := (EI_run X (d + 1) 195 4 148 _ _ S h).trans rfl
theorem f_195_155 (X : Xs) (d : Nat) (l0 : Int) (S : Sh) (h : Mem) : EI X (d + 1) 195 155 [some (.inr (.inr l0))] [] S h = oK (unV 2 (.inr (.inr (S.length : Int)))) none fun x2 => oK (putf (S ++ [(20, 64)]) h 11 l0 32 x2) none fun h1 => EI X (d + 1) 195 163 [some (.inr (.inr l0))] [] (S ++ [(20, 64)]) h1 := (EI_run X (d + 1) 195 4 155 _ _ S h).trans rfl
theorem f_195_163 (X : Xs) (d : Nat) (l0 : Int) (S : Sh) (h : Mem) : EI X (d + 1) 195 163 [some (.inr (.inr l0))] [] S h = oK (unV 2 (.inr (.inr (S.length : Int)))) none fun x2 => oK (putf (S ++ [(20, 80)]) h 11 l0 35 x2) none fun h1 => EI X (d + 1) 195 171 [some (.inr (.inr l0))] [] (S ++ [(20, 80)]) h1 := (EI_run X (d + 1) 195 4 163 _ _ S h).trans rfl
theorem f_195_171 (X : Xs) (d : Nat) (l0 : Int) (S : Sh) (h : Mem) : EI X (d + 1) 195 171 [some (.inr (.inr l0))] [] S h = oK (unV 2 (.inr (.inr (S.length : Int)))) none fun x2 => oK (putf (S ++ [(20, 5)]) h 11 l0 36 x2) none fun h1 => EI X (d + 1) 195 178 [some (.inr (.inr l0))] [] (S ++ [(20, 5)]) h1 := (EI_run X (d + 1) 195 4 171 _ _ S h).trans rfl
theorem f_195_178 (X : Xs) (d : Nat) (l0 : Int) (S : Sh) (h : Mem) : EI X (d + 1) 195 178 [some (.inr (.inr l0))] [] S h = oK (unV 2 (.inr (.inr (S.length : Int)))) none fun x2 => oK (putf (S ++ [(20, 5)]) h 11 l0 37 x2) none fun h1 => EI X (d + 1) 195 185 [some (.inr (.inr l0))] [] (S ++ [(20, 5)]) h1 := (EI_run X (d + 1) 195 4 178 _ _ S h).trans rfl
theorem f_195_185 (X : Xs) (d : Nat) (l0 : Int) (S : Sh) (h : Mem) : EI X (d + 1) 195 185 [some (.inr (.inr l0))] [] S h = if kd S l0 = 11 then (oC (MI X d 196 [.inr (.inr l0), .inl 0] S h) fun r1 S1 m1 => some (0, S1, m1)) else none := (EI_run X (d + 1) 195 4 185 _ _ S h).trans rfl
section
variable {X : Xs} {d : Nat}
theorem n_196_l {S : Sh} (k1 : kd S 143 = 11) (k2 : kd S 144 = 20) (k3 : ln S 144 = 3768) : ∀ (k : Nat) (i : Int) (h : Mem), i + k = 472 → 0 ≤ i → rd h 143 0 = 144 → (∀ j, 0 ≤ j → j < i → rd h 144 j = 0) → ∃ g, EI X d 196 2 [some (.inr (.inr 143)), some (.inl 0), some (.inl i)] [] S h = some (0, S, g) ∧ (∀ j, 0 ≤ j → j < 472 → rd g 144 j = sD j) ∧ Fn 144 145 h g := by
  have gb : ∀ (h : Mem), rd h 143 0 = 144 → getf S h 11 143 0 = some 144 := fun h e => by
    unfold getf
    rw [if_pos k1]
    exact congrArg some e
  have pb : ∀ (h : Mem) (j x : Int), 0 ≤ j → j < 3768 → ast S h 20 144 j x = some (wr h 144 j x) := fun h j x a b => by
    unfold ast
    rw [if_pos ⟨k2, a, by rw [k3]; exact b⟩]
    rfl
  have z : ∀ (h : Mem) (j x : Int), rd h 143 0 = 144 → rd (wr h 144 j x) 143 0 = 144 := fun h j x e => by
    rw [rd_wr_ne _ _ _ _ (by omega) (by omega) (by omega)]; exact e
  intro k
  induction k with
  | zero =>
    intro i h hk i0 h0 hz
    rw [e_196_2, if_neg (by omega), show w32 (0 + 2) = 2 from rfl, show w32 (0 + 4) = 4 from rfl, show w32 (0 + 5) = 5 from rfl, show w32 (0 + 6) = 6 from rfl, show w32 (0 + 7) = 7 from rfl, show w32 (0 + 11) = 11 from rfl]
    rw [gb _ h0, oK_some, pb _ _ _ (by omega) (by omega), oK_some]
    have h1 := z h 2 6 h0
    rw [gb _ h1, oK_some, pb _ _ _ (by omega) (by omega), oK_some]
    have h2 := z _ 4 2 h1
    rw [gb _ h2, oK_some, pb _ _ _ (by omega) (by omega), oK_some]
    have h3 := z _ 5 2 h2
    rw [gb _ h3, oK_some, pb _ _ _ (by omega) (by omega), oK_some]
    have h4 := z _ 6 (-1) h3
    rw [gb _ h4, oK_some, pb _ _ _ (by omega) (by omega), oK_some]
    have h5 := z _ 7 (-1) h4
    rw [gb _ h5, oK_some, pb _ _ _ (by omega) (by omega), oK_some]
    refine ⟨_, rfl, fun j a b => ?_, fun c j a b e => ?_⟩
    · rw [rd_wr_if _ _ _ (by omega) (by omega), rd_wr_if _ _ _ (by omega) (by omega), rd_wr_if _ _ _ (by omega) (by omega), rd_wr_if _ _ _ (by omega) (by omega), rd_wr_if _ _ _ (by omega) (by omega), rd_wr_if _ _ _ (by omega) (by omega), hz j a (by omega)]
      unfold sD
      (repeat' split) <;> first | rfl | omega
    · rw [rd_wr_ne _ _ _ _ (by omega) a (by omega), rd_wr_ne _ _ _ _ (by omega) a (by omega), rd_wr_ne _ _ _ _ (by omega) a (by omega), rd_wr_ne _ _ _ _ (by omega) a (by omega), rd_wr_ne _ _ _ _ (by omega) a (by omega), rd_wr_ne _ _ _ _ (by omega) a (by omega)]
  | succ k ih =>
    intro i h hk i0 h0 hz
    rw [e_196_2, if_pos (by omega), gb _ h0, oK_some, Int.zero_add, w32_id (x := i) (by omega) (by omega), w32_id (x := i + 1) (by omega) (by omega), pb _ _ _ i0 (by omega), oK_some]
    obtain ⟨g, e, a, f⟩ := ih (i + 1) (wr h 144 i 0) (by omega) (by omega) (z _ _ _ h0) (fun j a b => by
      rw [rd_wr_if _ _ _ i0 a]
      by_cases w : j = i
      · rw [if_pos w]
      · rw [if_neg w]; exact hz j a (by omega))
    exact ⟨g, e, a, fun c j x y z => (f c j x y z).trans (rd_wr_ne _ _ _ _ (by omega) x (by omega))⟩
set_option maxRecDepth 100000 in
theorem n_195 (h : Mem) (q : Rq [(1, 19, 1), (1, 17, -1), (1, 16, -1), (1, 12, 142), (142, 0, 125), (1, 11, 141), (141, 0, 125), (141, 2, 0), (1, 10, 138), (138, 2, 140), (138, 0, 139), (1, 9, 134), (134, 3, 137), (134, 2, 136), (134, 0, 135), (1, 8, 125), (125, 7, 133), (125, 6, 132), (125, 5, 131), (125, 4, 130), (125, 3, 129), (125, 2, 128), (125, 1, 127), (125, 0, 126), (61, 2, 104), (104, 2, 105), (104, 3, 106), (104, 4, 107), (104, 5, 108), (104, 6, 109), (104, 7, 110), (104, 8, 111), (104, 9, 112), (104, 10, 113), (104, 11, 114), (104, 12, 115), (104, 13, 116), (104, 19, 117), (117, 2, 118), (117, 3, 119), (117, 4, 120), (117, 5, 121), (117, 6, 122), (117, 7, 123), (117, 8, 124), (104, 0, 0), (104, 1, 0), (104, 14, -1), (105, 0, 6), (105, 1, 0), (105, 2, 2), (105, 3, 2), (117, 0, 0), (117, 1, 0), (61, 1, 83), (83, 2, 84), (83, 3, 85), (83, 4, 86), (83, 5, 87), (83, 6, 88), (83, 7, 89), (83, 8, 90), (83, 9, 91), (83, 10, 92), (83, 11, 93), (83, 12, 94), (83, 13, 95), (83, 19, 96), (96, 2, 97), (96, 3, 98), (96, 4, 99), (96, 5, 100), (96, 6, 101), (96, 7, 102), (96, 8, 103), (83, 0, 0), (83, 1, 0), (83, 14, -1), (84, 0, 6), (84, 1, 0), (84, 2, 2), (84, 3, 2), (96, 0, 0), (96, 1, 0), (61, 0, 62), (62, 2, 63), (62, 3, 64), (62, 4, 65), (62, 5, 66), (62, 6, 67), (62, 7, 68), (62, 8, 69), (62, 9, 70), (62, 10, 71), (62, 11, 72), (62, 12, 73), (62, 13, 74), (62, 19, 75), (75, 2, 76), (75, 3, 77), (75, 4, 78), (75, 5, 79), (75, 6, 80), (75, 7, 81), (75, 8, 82), (62, 0, 0), (62, 1, 0), (62, 14, -1), (63, 0, 6), (63, 1, 0), (63, 2, 2), (63, 3, 2), (75, 0, 0), (75, 1, 0), (1, 7, 61), (1, 6, 40), (40, 2, 41), (40, 3, 42), (40, 4, 43), (40, 5, 44), (40, 6, 45), (40, 7, 46), (40, 8, 47), (40, 9, 48), (40, 10, 49), (40, 11, 50), (40, 12, 51), (40, 13, 52), (40, 19, 53), (53, 2, 54), (53, 3, 55), (53, 4, 56), (53, 5, 57), (53, 6, 58), (53, 7, 59), (53, 8, 60), (40, 0, 0), (40, 1, 0), (40, 14, -1), (41, 0, 6), (41, 1, 0), (41, 2, 2), (41, 3, 2), (53, 0, 0), (53, 1, 0), (1, 5, 19), (19, 2, 20), (19, 3, 21), (19, 4, 22), (19, 5, 23), (19, 6, 24), (19, 7, 25), (19, 8, 26), (19, 9, 27), (19, 10, 28), (19, 11, 29), (19, 12, 30), (19, 13, 31), (19, 19, 32), (32, 2, 33), (32, 3, 34), (32, 4, 35), (32, 5, 36), (32, 6, 37), (32, 7, 38), (32, 8, 39), (19, 0, 0), (19, 1, 0), (19, 14, -1), (20, 0, 6), (20, 1, 0), (20, 2, 2), (20, 3, 2), (32, 0, 0), (32, 1, 0), (1, 4, 17), (17, 1, 18), (17, 0, 11), (1, 3, 16), (16, 0, 11), (1, 2, 11), (11, 1, 15), (11, 4, 14), (11, 3, 13), (11, 2, 12), (11, 0, 10), (15, 0, 1819242087), (15, 1, 7566702), (15, 2, 444199957093), (15, 3, 1868850291), (15, 4, 499967946343), (15, 5, 491327153000), (15, 6, 131277443786868), (15, 7, 108243466677107), (15, 8, 7168366), (15, 9, 8319400191629685864), (15, 10, 1818846821), (15, 11, 448545973363), (15, 12, 1835361652), (15, 13, 1919251316), (15, 14, 26479), (15, 15, 1650549611), (15, 16, 126943972911973), (15, 17, 1751474540), (15, 18, 6385273), (15, 19, 2003330414), (15, 20, 1852137842), (15, 21, 108243635103086), (15, 22, 112602892498035), (15, 23, 1819242352), (15, 24, 6647396), (15, 25, 1937010544), (1, 1, 10), (1, 0, 2), (8, 3, -1), (8, 2, -1), (8, 1, -1), (8, 0, -1), (2, 2, 9), (2, 1, 8), (2, 0, 3), (3, 0, 4), (3, 1, 5), (3, 2, 6), (3, 3, 7), (1, 13, 0), (1, 14, 0), (1, 15, 0), (1, 18, 0), (143, 2, 0), (143, 3, 0), (143, 10, 0), (143, 38, 0), (143, 39, 0)] h) : Sk 163 (fun g => Rq [(143, 37, 162), (143, 36, 161), (143, 35, 160), (143, 32, 159), (143, 30, 158), (143, 29, 157), (143, 28, 156), (143, 27, 155), (143, 26, 154), (143, 25, 153), (143, 24, 152), (143, 21, 151), (143, 17, -1), (143, 16, -1), (143, 9, 150), (143, 8, 149), (143, 7, 148), (143, 6, 147), (147, 3, -1), (147, 2, -1), (147, 1, -1), (147, 0, -1), (143, 5, 146), (143, 4, 1), (143, 1, 145), (143, 0, 144), (1, 19, 1), (1, 17, -1), (1, 16, -1), (1, 12, 142), (142, 0, 125), (1, 11, 141), (141, 0, 125), (141, 2, 0), (1, 10, 138), (138, 2, 140), (138, 0, 139), (1, 9, 134), (134, 3, 137), (134, 2, 136), (134, 0, 135), (1, 8, 125), (125, 7, 133), (125, 6, 132), (125, 5, 131), (125, 4, 130), (125, 3, 129), (125, 2, 128), (125, 1, 127), (125, 0, 126), (61, 2, 104), (104, 2, 105), (104, 3, 106), (104, 4, 107), (104, 5, 108), (104, 6, 109), (104, 7, 110), (104, 8, 111), (104, 9, 112), (104, 10, 113), (104, 11, 114), (104, 12, 115), (104, 13, 116), (104, 19, 117), (117, 2, 118), (117, 3, 119), (117, 4, 120), (117, 5, 121), (117, 6, 122), (117, 7, 123), (117, 8, 124), (104, 0, 0), (104, 1, 0), (104, 14, -1), (105, 0, 6), (105, 1, 0), (105, 2, 2), (105, 3, 2), (117, 0, 0), (117, 1, 0), (61, 1, 83), (83, 2, 84), (83, 3, 85), (83, 4, 86), (83, 5, 87), (83, 6, 88), (83, 7, 89), (83, 8, 90), (83, 9, 91), (83, 10, 92), (83, 11, 93), (83, 12, 94), (83, 13, 95), (83, 19, 96), (96, 2, 97), (96, 3, 98), (96, 4, 99), (96, 5, 100), (96, 6, 101), (96, 7, 102), (96, 8, 103), (83, 0, 0), (83, 1, 0), (83, 14, -1), (84, 0, 6), (84, 1, 0), (84, 2, 2), (84, 3, 2), (96, 0, 0), (96, 1, 0), (61, 0, 62), (62, 2, 63), (62, 3, 64), (62, 4, 65), (62, 5, 66), (62, 6, 67), (62, 7, 68), (62, 8, 69), (62, 9, 70), (62, 10, 71), (62, 11, 72), (62, 12, 73), (62, 13, 74), (62, 19, 75), (75, 2, 76), (75, 3, 77), (75, 4, 78), (75, 5, 79), (75, 6, 80), (75, 7, 81), (75, 8, 82), (62, 0, 0), (62, 1, 0), (62, 14, -1), (63, 0, 6), (63, 1, 0), (63, 2, 2), (63, 3, 2), (75, 0, 0), (75, 1, 0), (1, 7, 61), (1, 6, 40), (40, 2, 41), (40, 3, 42), (40, 4, 43), (40, 5, 44), (40, 6, 45), (40, 7, 46), (40, 8, 47), (40, 9, 48), (40, 10, 49), (40, 11, 50), (40, 12, 51), (40, 13, 52), (40, 19, 53), (53, 2, 54), (53, 3, 55), (53, 4, 56), (53, 5, 57), (53, 6, 58), (53, 7, 59), (53, 8, 60), (40, 0, 0), (40, 1, 0), (40, 14, -1), (41, 0, 6), (41, 1, 0), (41, 2, 2), (41, 3, 2), (53, 0, 0), (53, 1, 0), (1, 5, 19), (19, 2, 20), (19, 3, 21), (19, 4, 22), (19, 5, 23), (19, 6, 24), (19, 7, 25), (19, 8, 26), (19, 9, 27), (19, 10, 28), (19, 11, 29), (19, 12, 30), (19, 13, 31), (19, 19, 32), (32, 2, 33), (32, 3, 34), (32, 4, 35), (32, 5, 36), (32, 6, 37), (32, 7, 38), (32, 8, 39), (19, 0, 0), (19, 1, 0), (19, 14, -1), (20, 0, 6), (20, 1, 0), (20, 2, 2), (20, 3, 2), (32, 0, 0), (32, 1, 0), (1, 4, 17), (17, 1, 18), (17, 0, 11), (1, 3, 16), (16, 0, 11), (1, 2, 11), (11, 1, 15), (11, 4, 14), (11, 3, 13), (11, 2, 12), (11, 0, 10), (15, 0, 1819242087), (15, 1, 7566702), (15, 2, 444199957093), (15, 3, 1868850291), (15, 4, 499967946343), (15, 5, 491327153000), (15, 6, 131277443786868), (15, 7, 108243466677107), (15, 8, 7168366), (15, 9, 8319400191629685864), (15, 10, 1818846821), (15, 11, 448545973363), (15, 12, 1835361652), (15, 13, 1919251316), (15, 14, 26479), (15, 15, 1650549611), (15, 16, 126943972911973), (15, 17, 1751474540), (15, 18, 6385273), (15, 19, 2003330414), (15, 20, 1852137842), (15, 21, 108243635103086), (15, 22, 112602892498035), (15, 23, 1819242352), (15, 24, 6647396), (15, 25, 1937010544), (1, 1, 10), (1, 0, 2), (8, 3, -1), (8, 2, -1), (8, 1, -1), (8, 0, -1), (2, 2, 9), (2, 1, 8), (2, 0, 3), (3, 0, 4), (3, 1, 5), (3, 2, 6), (3, 3, 7), (1, 13, 0), (1, 14, 0), (1, 15, 0), (1, 18, 0), (143, 2, 0), (143, 3, 0), (143, 10, 0), (143, 38, 0), (143, 39, 0)] g ∧ ∀ j, 0 ≤ j → j < 472 → rd g 144 j = sD j) (MI X (d + 1) 195 [.inr (.inr 143)] (Tk 144) h) := by
  rw [f_195]
  have fn := @Fn_rf 1 163 h
  refine s_kd rfl ?_
  (try dsimp only)
  rw [f_195_4]
  simp (disch := decide) only [Tk_app, Nat.reduceAdd, Tk_len, nlit]
  refine s_un2 (by decide) ?_
  refine s_putq 0 rfl rfl (by decide) fn q (by decide) (by decide +kernel) fun h fn q => ?_
  (try dsimp only)
  rw [f_195_13]
  simp (disch := decide) only [Tk_app, Nat.reduceAdd, Tk_len, nlit]
  refine s_un2 (by decide) ?_
  refine s_putq 1 rfl rfl (by decide) fn q (by decide) (by decide +kernel) fun h fn q => ?_
  (try dsimp only)
  rw [f_195_21]
  refine s_putq 4 rfl rfl (by decide) fn q (by decide) (by decide +kernel) fun h fn q => ?_
  (try dsimp only)
  rw [f_195_26]
  simp (disch := decide) only [Tk_app, Nat.reduceAdd, Tk_len, nlit]
  refine s_un2 (by decide) ?_
  refine s_putq 5 rfl rfl (by decide) fn q (by decide) (by decide +kernel) fun h fn q => ?_
  (try dsimp only)
  rw [f_195_33]
  simp (disch := decide) only [Tk_app, Nat.reduceAdd, Tk_len, nlit]
  refine s_astq rfl (by decide) (by decide) fn q (by decide) (by decide +kernel) fun h fn q => ?_
  refine s_astq rfl (by decide) (by decide) fn q (by decide) (by decide +kernel) fun h fn q => ?_
  refine s_astq rfl (by decide) (by decide) fn q (by decide) (by decide +kernel) fun h fn q => ?_
  refine s_astq rfl (by decide) (by decide) fn q (by decide) (by decide +kernel) fun h fn q => ?_
  refine s_un2 (by decide) ?_
  refine s_putq 6 rfl rfl (by decide) fn q (by decide) (by decide +kernel) fun h fn q => ?_
  (try dsimp only)
  rw [f_195_56]
  simp (disch := decide) only [Tk_app, Nat.reduceAdd, Tk_len, nlit]
  refine s_un2 (by decide) ?_
  refine s_putq 7 rfl rfl (by decide) fn q (by decide) (by decide +kernel) fun h fn q => ?_
  (try dsimp only)
  rw [f_195_65]
  simp (disch := decide) only [Tk_app, Nat.reduceAdd, Tk_len, nlit]
  refine s_un2 (by decide) ?_
  refine s_putq 8 rfl rfl (by decide) fn q (by decide) (by decide +kernel) fun h fn q => ?_
  (try dsimp only)
  rw [f_195_74]
  simp (disch := decide) only [Tk_app, Nat.reduceAdd, Tk_len, nlit]
  refine s_un2 (by decide) ?_
  refine s_putq 9 rfl rfl (by decide) fn q (by decide) (by decide +kernel) fun h fn q => ?_
  (try dsimp only)
  rw [f_195_83]
  refine s_putq 16 rfl rfl (by decide) fn q (by decide) (by decide +kernel) fun h fn q => ?_
  (try dsimp only)
  rw [f_195_88]
  refine s_putq 17 rfl rfl (by decide) fn q (by decide) (by decide +kernel) fun h fn q => ?_
  (try dsimp only)
  rw [f_195_93]
  simp (disch := decide) only [Tk_app, Nat.reduceAdd, Tk_len, nlit]
  refine s_un2 (by decide) ?_
  refine s_putq 21 rfl rfl (by decide) fn q (by decide) (by decide +kernel) fun h fn q => ?_
  (try dsimp only)
  rw [f_195_100]
  simp (disch := decide) only [Tk_app, Nat.reduceAdd, Tk_len, nlit]
  refine s_un2 (by decide) ?_
  refine s_putq 24 rfl rfl (by decide) fn q (by decide) (by decide +kernel) fun h fn q => ?_
  (try dsimp only)
  rw [f_195_108]
  simp (disch := decide) only [Tk_app, Nat.reduceAdd, Tk_len, nlit]
  refine s_un2 (by decide) ?_
  refine s_putq 25 rfl rfl (by decide) fn q (by decide) (by decide +kernel) fun h fn q => ?_
  (try dsimp only)
  rw [f_195_116]
  simp (disch := decide) only [Tk_app, Nat.reduceAdd, Tk_len, nlit]
  refine s_un2 (by decide) ?_
  refine s_putq 26 rfl rfl (by decide) fn q (by decide) (by decide +kernel) fun h fn q => ?_
  (try dsimp only)
  rw [f_195_124]
  simp (disch := decide) only [Tk_app, Nat.reduceAdd, Tk_len, nlit]
  refine s_un2 (by decide) ?_
  refine s_putq 27 rfl rfl (by decide) fn q (by decide) (by decide +kernel) fun h fn q => ?_
  (try dsimp only)
  rw [f_195_131]
  simp (disch := decide) only [Tk_app, Nat.reduceAdd, Tk_len, nlit]
  refine s_un2 (by decide) ?_
  refine s_putq 28 rfl rfl (by decide) fn q (by decide) (by decide +kernel) fun h fn q => ?_
  (try dsimp only)
  rw [f_195_140]
  simp (disch := decide) only [Tk_app, Nat.reduceAdd, Tk_len, nlit]
  refine s_un2 (by decide) ?_
  refine s_putq 29 rfl rfl (by decide) fn q (by decide) (by decide +kernel) fun h fn q => ?_
  (try dsimp only)
  rw [f_195_148]
  simp (disch := decide) only [Tk_app, Nat.reduceAdd, Tk_len, nlit]
  refine s_un2 (by decide) ?_
  refine s_putq 30 rfl rfl (by decide) fn q (by decide) (by decide +kernel) fun h fn q => ?_
  (try dsimp only)
  rw [f_195_155]
  simp (disch := decide) only [Tk_app, Nat.reduceAdd, Tk_len, nlit]
  refine s_un2 (by decide) ?_
  refine s_putq 32 rfl rfl (by decide) fn q (by decide) (by decide +kernel) fun h fn q => ?_
  (try dsimp only)
  rw [f_195_163]
  simp (disch := decide) only [Tk_app, Nat.reduceAdd, Tk_len, nlit]
  refine s_un2 (by decide) ?_
  refine s_putq 35 rfl rfl (by decide) fn q (by decide) (by decide +kernel) fun h fn q => ?_
  (try dsimp only)
  rw [f_195_171]
  simp (disch := decide) only [Tk_app, Nat.reduceAdd, Tk_len, nlit]
  refine s_un2 (by decide) ?_
  refine s_putq 36 rfl rfl (by decide) fn q (by decide) (by decide +kernel) fun h fn q => ?_
  (try dsimp only)
  rw [f_195_178]
  simp (disch := decide) only [Tk_app, Nat.reduceAdd, Tk_len, nlit]
  refine s_un2 (by decide) ?_
  refine s_putq 37 rfl rfl (by decide) fn q (by decide) (by decide +kernel) fun h fn q => ?_
  (try dsimp only)
  rw [f_195_185]
  refine s_kd rfl ?_
  obtain ⟨g, eg, g1, fg⟩ := n_196_l (X := X) (d := d) (S := Tk 163) rfl rfl rfl 472 0 h rfl (by decide) (Rq_has q (by decide +kernel)) (fun j a b => by omega)
  have eg2 : MI X d 196 [.inr (.inr 143), .inl 0] (Tk 163) h = some (0, Tk 163, g) := (e_196 X d 143 0 (Tk 163) h).trans eg
  rw [oC_of eg2]
  exact Sk_some ⟨Rq_fn q fg (by decide +kernel), g1⟩

end
