/-! the constructors: the class -/
section
variable {X : Xs} {d : Nat}

theorem n_102 (h : Mem) : Sk 10 (fun g => Fn 2 10 h g ∧ Rq [(8, 3, -1), (8, 2, -1), (8, 1, -1), (8, 0, -1), (2, 2, 9), (2, 1, 8), (2, 0, 3), (3, 0, 4), (3, 1, 5), (3, 2, 6), (3, 3, 7)] g) (MI X d 102 [.inr (.inr 2)] (Tk 3) h) := by
  rw [e_102]
  have e8 : Tk 3 ++ [(25, 4), (21, 60), (21, 60), (21, 60), (21, 60)] = Tk 8 := rfl
  simp (disch := decide) only [e8, Tk_app, Nat.reduceAdd, Tk_len, nlit]
  generalize hm : (fun (a j : Nat) => if a = 3 ∧ j < 4 then (3 : Int) + 1 + ((j : Nat) : Int) else h a j) = h1
  have fn : Fn 2 10 h h1 := fun c j x y z => by
    subst hm
    exact if_neg (fun w => by have := w.1; omega)
  have q : Rq [(3, 0, 4), (3, 1, 5), (3, 2, 6), (3, 3, 7)] h1 := fun p m => by
    simp only [List.mem_cons, List.not_mem_nil, or_false] at m
    subst hm
    rcases m with rfl | rfl | rfl | rfl <;> rfl
  clear hm
  refine s_kd rfl ?_
  refine s_un2 (by decide) ?_
  refine s_putq 0 rfl rfl (by decide) fn q (by decide) (by decide +kernel) fun h fn q => ?_
  refine s_un2 (by decide) ?_
  refine s_putq 1 rfl rfl (by decide) fn q (by decide) (by decide +kernel) fun h fn q => ?_
  refine s_un2 (by decide) ?_
  refine s_putq 2 rfl rfl (by decide) fn q (by decide) (by decide +kernel) fun h fn q => ?_
  (try dsimp only)
  rw [e_102_31, if_pos (by decide)]
  refine s_getq 1 (8) rfl rfl q (by decide +kernel) ?_
  refine s_astq rfl (by decide) (by decide) fn q (by decide) (by decide +kernel) fun h fn q => ?_
  (try dsimp only)
  rw [show w32 (0 + 1) = 1 from rfl]
  (try dsimp only)
  rw [e_102_31, if_pos (by decide)]
  refine s_getq 1 (8) rfl rfl q (by decide +kernel) ?_
  refine s_astq rfl (by decide) (by decide) fn q (by decide) (by decide +kernel) fun h fn q => ?_
  (try dsimp only)
  rw [show w32 (1 + 1) = 2 from rfl]
  (try dsimp only)
  rw [e_102_31, if_pos (by decide)]
  refine s_getq 1 (8) rfl rfl q (by decide +kernel) ?_
  refine s_astq rfl (by decide) (by decide) fn q (by decide) (by decide +kernel) fun h fn q => ?_
  (try dsimp only)
  rw [show w32 (2 + 1) = 3 from rfl]
  (try dsimp only)
  rw [e_102_31, if_pos (by decide)]
  refine s_getq 1 (8) rfl rfl q (by decide +kernel) ?_
  refine s_astq rfl (by decide) (by decide) fn q (by decide) (by decide +kernel) fun h fn q => ?_
  (try dsimp only)
  rw [show w32 (3 + 1) = 4 from rfl]
  (try dsimp only)
  rw [e_102_31, if_neg (by decide)]
  exact Sk_some ⟨fn, q⟩

theorem n_85 (h : Mem) (h15 : h 15 = fun _ => 0) : Sk 16 (fun g => Fn 11 16 h g ∧ Rq [(11, 1, 15), (11, 4, 14), (11, 3, 13), (11, 2, 12), (11, 0, 10), (15, 0, 1819242087), (15, 1, 7566702), (15, 2, 444199957093), (15, 3, 1868850291), (15, 4, 499967946343), (15, 5, 491327153000), (15, 6, 131277443786868), (15, 7, 108243466677107), (15, 8, 7168366), (15, 9, 8319400191629685864), (15, 10, 1818846821), (15, 11, 448545973363), (15, 12, 1835361652), (15, 13, 1919251316), (15, 14, 26479), (15, 15, 1650549611), (15, 16, 126943972911973), (15, 17, 1751474540), (15, 18, 6385273), (15, 19, 2003330414), (15, 20, 1852137842), (15, 21, 108243635103086), (15, 22, 112602892498035), (15, 23, 1819242352), (15, 24, 6647396), (15, 25, 1937010544)] g) (MI X (d + 6) 85 [.inr (.inr 11), .inr (.inr 10)] (Tk 12) h) := by
  rw [e_85]
  (try simp (disch := decide) only [Tk_app, Nat.reduceAdd, Tk_len, nlit])
  have fn := @Fn_rf 11 12 h
  have q := @Rq_nil h
  refine s_kd rfl ?_
  refine s_un2 (by decide) ?_
  refine s_putq 0 rfl rfl (by decide) fn q (by decide) (by decide +kernel) fun h fn q => ?_
  refine s_un2 (by decide) ?_
  refine s_putq 2 rfl rfl (by decide) fn q (by decide) (by decide +kernel) fun h fn q => ?_
  refine s_un2 (by decide) ?_
  refine s_putq 3 rfl rfl (by decide) fn q (by decide) (by decide +kernel) fun h fn q => ?_
  refine s_un2 (by decide) ?_
  refine s_putq 4 rfl rfl (by decide) fn q (by decide) (by decide +kernel) fun h fn q => ?_
  refine s_un2 (by decide) ?_
  refine s_putq 1 rfl rfl (by decide) fn q (by decide) (by decide +kernel) fun h fn q => ?_
  have f11 := fn
  replace fn := Fn_tr (a := 11) (e := 16) (@Fn_rf 11 16 _) fn (by decide) (by decide)
  obtain ⟨u, w1, w2⟩ := wlp_ok
  have z15 : h 15 = fun _ => 0 := by
    funext j
    exact (f11 15 j (by decide) (by omega) (by decide)).trans (congrFun h15 j)
  obtain ⟨g, eg, g15, fg⟩ := n_85_l (X := X) (d := d) (S := Tk 16) rfl rfl rfl 142 0 0 h u rfl (Rq_has q (by decide +kernel)) (by rw [z15]; exact w1)
  refine ⟨0, g, eg, Fn_tr fn (fun c j x y z => fg c j x y (by omega)) (Int.le_refl _) (Int.le_refl _), ?_⟩
  have q1 := Rq_fn q (g := g) (a := 15) (e := 16) (fun c j x y z => fg c j x y (by omega)) (by decide +kernel)
  have q2 : Rq [(15, 0, 1819242087), (15, 1, 7566702), (15, 2, 444199957093), (15, 3, 1868850291), (15, 4, 499967946343), (15, 5, 491327153000), (15, 6, 131277443786868), (15, 7, 108243466677107), (15, 8, 7168366), (15, 9, 8319400191629685864), (15, 10, 1818846821), (15, 11, 448545973363), (15, 12, 1835361652), (15, 13, 1919251316), (15, 14, 26479), (15, 15, 1650549611), (15, 16, 126943972911973), (15, 17, 1751474540), (15, 18, 6385273), (15, 19, 2003330414), (15, 20, 1852137842), (15, 21, 108243635103086), (15, 22, 112602892498035), (15, 23, 1819242352), (15, 24, 6647396), (15, 25, 1937010544)] g := fun p m => by
    simp only [List.mem_cons, List.not_mem_nil, or_false] at m
    rcases m with rfl | rfl | rfl | rfl | rfl | rfl | rfl | rfl | rfl | rfl | rfl | rfl | rfl | rfl | rfl | rfl | rfl | rfl | rfl | rfl | rfl | rfl | rfl | rfl | rfl | rfl
    · show g 15 0 = _
      rw [g15]
      exact w2 ⟨0, by decide⟩
    · show g 15 1 = _
      rw [g15]
      exact w2 ⟨1, by decide⟩
    · show g 15 2 = _
      rw [g15]
      exact w2 ⟨2, by decide⟩
    · show g 15 3 = _
      rw [g15]
      exact w2 ⟨3, by decide⟩
    · show g 15 4 = _
      rw [g15]
      exact w2 ⟨4, by decide⟩
    · show g 15 5 = _
      rw [g15]
      exact w2 ⟨5, by decide⟩
    · show g 15 6 = _
      rw [g15]
      exact w2 ⟨6, by decide⟩
    · show g 15 7 = _
      rw [g15]
      exact w2 ⟨7, by decide⟩
    · show g 15 8 = _
      rw [g15]
      exact w2 ⟨8, by decide⟩
    · show g 15 9 = _
      rw [g15]
      exact w2 ⟨9, by decide⟩
    · show g 15 10 = _
      rw [g15]
      exact w2 ⟨10, by decide⟩
    · show g 15 11 = _
      rw [g15]
      exact w2 ⟨11, by decide⟩
    · show g 15 12 = _
      rw [g15]
      exact w2 ⟨12, by decide⟩
    · show g 15 13 = _
      rw [g15]
      exact w2 ⟨13, by decide⟩
    · show g 15 14 = _
      rw [g15]
      exact w2 ⟨14, by decide⟩
    · show g 15 15 = _
      rw [g15]
      exact w2 ⟨15, by decide⟩
    · show g 15 16 = _
      rw [g15]
      exact w2 ⟨16, by decide⟩
    · show g 15 17 = _
      rw [g15]
      exact w2 ⟨17, by decide⟩
    · show g 15 18 = _
      rw [g15]
      exact w2 ⟨18, by decide⟩
    · show g 15 19 = _
      rw [g15]
      exact w2 ⟨19, by decide⟩
    · show g 15 20 = _
      rw [g15]
      exact w2 ⟨20, by decide⟩
    · show g 15 21 = _
      rw [g15]
      exact w2 ⟨21, by decide⟩
    · show g 15 22 = _
      rw [g15]
      exact w2 ⟨22, by decide⟩
    · show g 15 23 = _
      rw [g15]
      exact w2 ⟨23, by decide⟩
    · show g 15 24 = _
      rw [g15]
      exact w2 ⟨24, by decide⟩
    · show g 15 25 = _
      rw [g15]
      exact w2 ⟨25, by decide⟩
  exact Rq_sub (Rq_ap q1 q2) (by decide +kernel)

theorem n_45 (h : Mem) : Sk 17 (fun g => Fn 16 17 h g ∧ Rq [(16, 0, 11)] g) (MI X d 45 [.inr (.inr 16), .inr (.inr 11)] (Tk 17) h) := by
  rw [e_45]
  (try simp (disch := decide) only [Tk_app, Nat.reduceAdd, Tk_len, nlit])
  have fn := @Fn_rf 16 17 h
  have q := @Rq_nil h
  refine s_kd rfl ?_
  refine s_un2 (by decide) ?_
  refine s_putq 0 rfl rfl (by decide) fn q (by decide) (by decide +kernel) fun h fn q => ?_
  exact Sk_some ⟨fn, q⟩

theorem n_117 (h : Mem) : Sk 19 (fun g => Fn 17 19 h g ∧ Rq [(17, 1, 18), (17, 0, 11)] g) (MI X d 117 [.inr (.inr 17), .inr (.inr 11)] (Tk 18) h) := by
  rw [e_117]
  (try simp (disch := decide) only [Tk_app, Nat.reduceAdd, Tk_len, nlit])
  have fn := @Fn_rf 17 19 h
  have q := @Rq_nil h
  refine s_kd rfl ?_
  refine s_un2 (by decide) ?_
  refine s_putq 0 rfl rfl (by decide) fn q (by decide) (by decide +kernel) fun h fn q => ?_
  refine s_un2 (by decide) ?_
  refine s_putq 1 rfl rfl (by decide) fn q (by decide) (by decide +kernel) fun h fn q => ?_
  exact Sk_some ⟨fn, q⟩

theorem n_0 (h : Mem) : Sk 134 (fun g => Fn 125 134 h g ∧ Rq [(125, 7, 133), (125, 6, 132), (125, 5, 131), (125, 4, 130), (125, 3, 129), (125, 2, 128), (125, 1, 127), (125, 0, 126)] g) (MI X d 0 [.inr (.inr 125)] (Tk 126) h) := by
  rw [e_0]
  (try simp (disch := decide) only [Tk_app, Nat.reduceAdd, Tk_len, nlit])
  have fn := @Fn_rf 125 134 h
  have q := @Rq_nil h
  refine s_kd rfl ?_
  refine s_un2 (by decide) ?_
  refine s_putq 0 rfl rfl (by decide) fn q (by decide) (by decide +kernel) fun h fn q => ?_
  refine s_un2 (by decide) ?_
  refine s_putq 1 rfl rfl (by decide) fn q (by decide) (by decide +kernel) fun h fn q => ?_
  refine s_un2 (by decide) ?_
  refine s_putq 2 rfl rfl (by decide) fn q (by decide) (by decide +kernel) fun h fn q => ?_
  refine s_un2 (by decide) ?_
  refine s_putq 3 rfl rfl (by decide) fn q (by decide) (by decide +kernel) fun h fn q => ?_
  refine s_un2 (by decide) ?_
  refine s_putq 4 rfl rfl (by decide) fn q (by decide) (by decide +kernel) fun h fn q => ?_
  refine s_un2 (by decide) ?_
  refine s_putq 5 rfl rfl (by decide) fn q (by decide) (by decide +kernel) fun h fn q => ?_
  refine s_un2 (by decide) ?_
  refine s_putq 6 rfl rfl (by decide) fn q (by decide) (by decide +kernel) fun h fn q => ?_
  refine s_un2 (by decide) ?_
  refine s_putq 7 rfl rfl (by decide) fn q (by decide) (by decide +kernel) fun h fn q => ?_
  exact Sk_some ⟨fn, q⟩

theorem n_54 (h : Mem) : Sk 138 (fun g => Fn 134 138 h g ∧ Rq [(134, 3, 137), (134, 2, 136), (134, 0, 135)] g) (MI X d 54 [.inr (.inr 134)] (Tk 135) h) := by
  rw [e_54]
  (try simp (disch := decide) only [Tk_app, Nat.reduceAdd, Tk_len, nlit])
  have fn := @Fn_rf 134 138 h
  have q := @Rq_nil h
  refine s_kd rfl ?_
  refine s_un2 (by decide) ?_
  refine s_putq 0 rfl rfl (by decide) fn q (by decide) (by decide +kernel) fun h fn q => ?_
  refine s_un2 (by decide) ?_
  refine s_putq 2 rfl rfl (by decide) fn q (by decide) (by decide +kernel) fun h fn q => ?_
  refine s_un2 (by decide) ?_
  refine s_putq 3 rfl rfl (by decide) fn q (by decide) (by decide +kernel) fun h fn q => ?_
  exact Sk_some ⟨fn, q⟩

theorem n_76 (h : Mem) : Sk 141 (fun g => Fn 138 141 h g ∧ Rq [(138, 2, 140), (138, 0, 139)] g) (MI X d 76 [.inr (.inr 138)] (Tk 139) h) := by
  rw [e_76]
  (try simp (disch := decide) only [Tk_app, Nat.reduceAdd, Tk_len, nlit])
  have fn := @Fn_rf 138 141 h
  have q := @Rq_nil h
  refine s_kd rfl ?_
  refine s_un2 (by decide) ?_
  refine s_putq 0 rfl rfl (by decide) fn q (by decide) (by decide +kernel) fun h fn q => ?_
  refine s_un2 (by decide) ?_
  refine s_putq 2 rfl rfl (by decide) fn q (by decide) (by decide +kernel) fun h fn q => ?_
  exact Sk_some ⟨fn, q⟩

theorem n_67a (h : Mem) (h2 : rd h 141 2 = 0) : Sk 142 (fun g => Fn 141 142 h g ∧ Rq [(141, 0, 125), (141, 2, 0)] g) (MI X d 67 [.inr (.inr 141), .inr (.inr 125)] (Tk 142) h) := by
  rw [e_67]
  (try simp (disch := decide) only [Tk_app, Nat.reduceAdd, Tk_len, nlit])
  have fn := @Fn_rf 141 142 h
  have q : Rq [(141, 2, 0)] h := fun p m => by
    simp only [List.mem_cons, List.not_mem_nil, or_false] at m
    rw [m]
    exact h2
  refine s_kd rfl ?_
  refine s_un2 (by decide) ?_
  refine s_putq 0 rfl rfl (by decide) fn q (by decide) (by decide +kernel) fun h fn q => ?_
  exact Sk_some ⟨fn, q⟩

theorem n_67b (h : Mem) : Sk 143 (fun g => Fn 142 143 h g ∧ Rq [(142, 0, 125)] g) (MI X d 67 [.inr (.inr 142), .inr (.inr 125)] (Tk 143) h) := by
  rw [e_67]
  (try simp (disch := decide) only [Tk_app, Nat.reduceAdd, Tk_len, nlit])
  have fn := @Fn_rf 142 143 h
  have q := @Rq_nil h
  refine s_kd rfl ?_
  refine s_un2 (by decide) ?_
  refine s_putq 0 rfl rfl (by decide) fn q (by decide) (by decide +kernel) fun h fn q => ?_
  exact Sk_some ⟨fn, q⟩

set_option maxRecDepth 100000 in
theorem n_127 (h : Mem) (h15 : h 15 = fun _ => 0) (q : Rq [(1, 13, 0), (1, 14, 0), (1, 15, 0), (1, 18, 0), (141, 2, 0), (143, 2, 0), (143, 3, 0), (143, 10, 0), (143, 38, 0), (143, 39, 0)] h) : Sk 143 (fun g => Rq [(1, 19, 1), (1, 17, -1), (1, 16, -1), (1, 12, 142), (142, 0, 125), (1, 11, 141), (141, 0, 125), (141, 2, 0), (1, 10, 138), (138, 2, 140), (138, 0, 139), (1, 9, 134), (134, 3, 137), (134, 2, 136), (134, 0, 135), (1, 8, 125), (125, 7, 133), (125, 6, 132), (125, 5, 131), (125, 4, 130), (125, 3, 129), (125, 2, 128), (125, 1, 127), (125, 0, 126), (61, 2, 104), (104, 2, 105), (104, 3, 106), (104, 4, 107), (104, 5, 108), (104, 6, 109), (104, 7, 110), (104, 8, 111), (104, 9, 112), (104, 10, 113), (104, 11, 114), (104, 12, 115), (104, 13, 116), (104, 19, 117), (117, 2, 118), (117, 3, 119), (117, 4, 120), (117, 5, 121), (117, 6, 122), (117, 7, 123), (117, 8, 124), (104, 0, 0), (104, 1, 0), (104, 14, -1), (105, 0, 6), (105, 1, 0), (105, 2, 2), (105, 3, 2), (117, 0, 0), (117, 1, 0), (61, 1, 83), (83, 2, 84), (83, 3, 85), (83, 4, 86), (83, 5, 87), (83, 6, 88), (83, 7, 89), (83, 8, 90), (83, 9, 91), (83, 10, 92), (83, 11, 93), (83, 12, 94), (83, 13, 95), (83, 19, 96), (96, 2, 97), (96, 3, 98), (96, 4, 99), (96, 5, 100), (96, 6, 101), (96, 7, 102), (96, 8, 103), (83, 0, 0), (83, 1, 0), (83, 14, -1), (84, 0, 6), (84, 1, 0), (84, 2, 2), (84, 3, 2), (96, 0, 0), (96, 1, 0), (61, 0, 62), (62, 2, 63), (62, 3, 64), (62, 4, 65), (62, 5, 66), (62, 6, 67), (62, 7, 68), (62, 8, 69), (62, 9, 70), (62, 10, 71), (62, 11, 72), (62, 12, 73), (62, 13, 74), (62, 19, 75), (75, 2, 76), (75, 3, 77), (75, 4, 78), (75, 5, 79), (75, 6, 80), (75, 7, 81), (75, 8, 82), (62, 0, 0), (62, 1, 0), (62, 14, -1), (63, 0, 6), (63, 1, 0), (63, 2, 2), (63, 3, 2), (75, 0, 0), (75, 1, 0), (1, 7, 61), (1, 6, 40), (40, 2, 41), (40, 3, 42), (40, 4, 43), (40, 5, 44), (40, 6, 45), (40, 7, 46), (40, 8, 47), (40, 9, 48), (40, 10, 49), (40, 11, 50), (40, 12, 51), (40, 13, 52), (40, 19, 53), (53, 2, 54), (53, 3, 55), (53, 4, 56), (53, 5, 57), (53, 6, 58), (53, 7, 59), (53, 8, 60), (40, 0, 0), (40, 1, 0), (40, 14, -1), (41, 0, 6), (41, 1, 0), (41, 2, 2), (41, 3, 2), (53, 0, 0), (53, 1, 0), (1, 5, 19), (19, 2, 20), (19, 3, 21), (19, 4, 22), (19, 5, 23), (19, 6, 24), (19, 7, 25), (19, 8, 26), (19, 9, 27), (19, 10, 28), (19, 11, 29), (19, 12, 30), (19, 13, 31), (19, 19, 32), (32, 2, 33), (32, 3, 34), (32, 4, 35), (32, 5, 36), (32, 6, 37), (32, 7, 38), (32, 8, 39), (19, 0, 0), (19, 1, 0), (19, 14, -1), (20, 0, 6), (20, 1, 0), (20, 2, 2), (20, 3, 2), (32, 0, 0), (32, 1, 0), (1, 4, 17), (17, 1, 18), (17, 0, 11), (1, 3, 16), (16, 0, 11), (1, 2, 11), (11, 1, 15), (11, 4, 14), (11, 3, 13), (11, 2, 12), (11, 0, 10), (15, 0, 1819242087), (15, 1, 7566702), (15, 2, 444199957093), (15, 3, 1868850291), (15, 4, 499967946343), (15, 5, 491327153000), (15, 6, 131277443786868), (15, 7, 108243466677107), (15, 8, 7168366), (15, 9, 8319400191629685864), (15, 10, 1818846821), (15, 11, 448545973363), (15, 12, 1835361652), (15, 13, 1919251316), (15, 14, 26479), (15, 15, 1650549611), (15, 16, 126943972911973), (15, 17, 1751474540), (15, 18, 6385273), (15, 19, 2003330414), (15, 20, 1852137842), (15, 21, 108243635103086), (15, 22, 112602892498035), (15, 23, 1819242352), (15, 24, 6647396), (15, 25, 1937010544), (1, 1, 10), (1, 0, 2), (8, 3, -1), (8, 2, -1), (8, 1, -1), (8, 0, -1), (2, 2, 9), (2, 1, 8), (2, 0, 3), (3, 0, 4), (3, 1, 5), (3, 2, 6), (3, 3, 7), (1, 13, 0), (1, 14, 0), (1, 15, 0), (1, 18, 0), (143, 2, 0), (143, 3, 0), (143, 10, 0), (143, 38, 0), (143, 39, 0)] g) (MI X (d + 10) 127 [.inr (.inr 1)] (Tk 2) h) := by
  rw [e_127]
  (try simp (disch := decide) only [Tk_app, Nat.reduceAdd, Tk_len, nlit])
  have z15 : ∀ j, h 15 j = 0 := fun j => congrFun h15 j
  have fn := @Fn_rf 1 11 h
  refine s_kd rfl ?_
  refine s_kd rfl ?_
  refine Sk_o (n_102 (X := X) (d := d + 9) h) fun v h hq => ?_
  replace q := Rq_ap (Rq_fn q hq.1 (by decide +kernel)) hq.2
  replace fn := Fn_tr fn hq.1 (by decide) (by decide)
  (try simp (disch := decide) only [Tk_app, Nat.reduceAdd, Tk_len, nlit])
  refine s_un2 (by decide) ?_
  refine s_putq 0 rfl rfl (by decide) fn q (by decide) (by decide +kernel) fun h fn q => ?_
  refine s_un2 (by decide) ?_
  refine s_putq 1 rfl rfl (by decide) fn q (by decide) (by decide +kernel) fun h fn q => ?_
  refine s_getq 1 (10) rfl rfl q (by decide +kernel) ?_
  refine s_kd rfl ?_
  have h15 : h 15 = fun _ => 0 := funext fun j => (fn 15 j (by decide) (by omega) (by decide)).trans (z15 j)
  refine Sk_o (n_85 (X := X) (d := d + 3) h h15) fun v h hq => ?_
  replace q := Rq_ap (Rq_fn q hq.1 (by decide +kernel)) hq.2
  replace fn := @Fn_rf 1 143 h
  (try simp (disch := decide) only [Tk_app, Nat.reduceAdd, Tk_len, nlit])
  refine s_un2 (by decide) ?_
  refine s_putq 2 rfl rfl (by decide) fn q (by decide) (by decide +kernel) fun h fn q => ?_
  refine s_getq 2 (11) rfl rfl q (by decide +kernel) ?_
  refine s_kd rfl ?_
  refine Sk_o (n_45 (X := X) (d := d + 9) h) fun v h hq => ?_
  replace q := Rq_ap (Rq_fn q hq.1 (by decide +kernel)) hq.2
  replace fn := Fn_tr fn hq.1 (by decide) (by decide)
  (try simp (disch := decide) only [Tk_app, Nat.reduceAdd, Tk_len, nlit])
  refine s_un2 (by decide) ?_
  refine s_putq 3 rfl rfl (by decide) fn q (by decide) (by decide +kernel) fun h fn q => ?_
  refine s_getq 2 (11) rfl rfl q (by decide +kernel) ?_
  refine s_kd rfl ?_
  refine Sk_o (n_117 (X := X) (d := d + 9) h) fun v h hq => ?_
  replace q := Rq_ap (Rq_fn q hq.1 (by decide +kernel)) hq.2
  replace fn := Fn_tr fn hq.1 (by decide) (by decide)
  (try simp (disch := decide) only [Tk_app, Nat.reduceAdd, Tk_len, nlit])
  refine s_un2 (by decide) ?_
  refine s_putq 4 rfl rfl (by decide) fn q (by decide) (by decide +kernel) fun h fn q => ?_
  refine s_kd rfl ?_
  refine Sk_o (n_17_19 (X := X) (d := d + 6) h) fun v h hq => ?_
  replace q := Rq_ap (Rq_fn q hq.1 (by decide +kernel)) hq.2
  replace fn := Fn_tr fn hq.1 (by decide) (by decide)
  (try simp (disch := decide) only [Tk_app, Nat.reduceAdd, Tk_len, nlit])
  refine s_un2 (by decide) ?_
  refine s_putq 5 rfl rfl (by decide) fn q (by decide) (by decide +kernel) fun h fn q => ?_
  refine s_kd rfl ?_
  refine Sk_o (n_17_40 (X := X) (d := d + 6) h) fun v h hq => ?_
  replace q := Rq_ap (Rq_fn q hq.1 (by decide +kernel)) hq.2
  replace fn := Fn_tr fn hq.1 (by decide) (by decide)
  (try simp (disch := decide) only [Tk_app, Nat.reduceAdd, Tk_len, nlit])
  refine s_un2 (by decide) ?_
  refine s_putq 6 rfl rfl (by decide) fn q (by decide) (by decide +kernel) fun h fn q => ?_
  refine s_un2 (by decide) ?_
  refine s_putq 7 rfl rfl (by decide) fn q (by decide) (by decide +kernel) fun h fn q => ?_
  (try dsimp only)
  rw [e_127_101, if_pos (by decide)]
  simp (disch := decide) only [Tk_app, Nat.reduceAdd, Tk_len, nlit]
  refine s_getq 7 (61) rfl rfl q (by decide +kernel) ?_
  refine s_kd rfl ?_
  refine Sk_o (n_17_62 (X := X) (d := d + 6) h) fun v h hq => ?_
  replace q := Rq_ap (Rq_fn q hq.1 (by decide +kernel)) hq.2
  replace fn := Fn_tr fn hq.1 (by decide) (by decide)
  (try simp (disch := decide) only [Tk_app, Nat.reduceAdd, Tk_len, nlit])
  refine s_kd rfl ?_
  refine s_astq rfl (by decide) (by decide) fn q (by decide) (by decide +kernel) fun h fn q => ?_
  (try dsimp only)
  rw [show w32 (0 + 1) = 1 from rfl]
  (try dsimp only)
  rw [e_127_101, if_pos (by decide)]
  simp (disch := decide) only [Tk_app, Nat.reduceAdd, Tk_len, nlit]
  refine s_getq 7 (61) rfl rfl q (by decide +kernel) ?_
  refine s_kd rfl ?_
  refine Sk_o (n_17_83 (X := X) (d := d + 6) h) fun v h hq => ?_
  replace q := Rq_ap (Rq_fn q hq.1 (by decide +kernel)) hq.2
  replace fn := Fn_tr fn hq.1 (by decide) (by decide)
  (try simp (disch := decide) only [Tk_app, Nat.reduceAdd, Tk_len, nlit])
  refine s_kd rfl ?_
  refine s_astq rfl (by decide) (by decide) fn q (by decide) (by decide +kernel) fun h fn q => ?_
  (try dsimp only)
  rw [show w32 (1 + 1) = 2 from rfl]
  (try dsimp only)
  rw [e_127_101, if_pos (by decide)]
  simp (disch := decide) only [Tk_app, Nat.reduceAdd, Tk_len, nlit]
  refine s_getq 7 (61) rfl rfl q (by decide +kernel) ?_
  refine s_kd rfl ?_
  refine Sk_o (n_17_104 (X := X) (d := d + 6) h) fun v h hq => ?_
  replace q := Rq_ap (Rq_fn q hq.1 (by decide +kernel)) hq.2
  replace fn := Fn_tr fn hq.1 (by decide) (by decide)
  (try simp (disch := decide) only [Tk_app, Nat.reduceAdd, Tk_len, nlit])
  refine s_kd rfl ?_
  refine s_astq rfl (by decide) (by decide) fn q (by decide) (by decide +kernel) fun h fn q => ?_
  (try dsimp only)
  rw [show w32 (2 + 1) = 3 from rfl]
  (try dsimp only)
  rw [e_127_101, if_neg (by decide)]
  simp (disch := decide) only [Tk_app, Nat.reduceAdd, Tk_len, nlit]
  refine s_kd rfl ?_
  refine Sk_o (n_0 (X := X) (d := d + 9) h) fun v h hq => ?_
  replace q := Rq_ap (Rq_fn q hq.1 (by decide +kernel)) hq.2
  replace fn := Fn_tr fn hq.1 (by decide) (by decide)
  (try simp (disch := decide) only [Tk_app, Nat.reduceAdd, Tk_len, nlit])
  refine s_un2 (by decide) ?_
  refine s_putq 8 rfl rfl (by decide) fn q (by decide) (by decide +kernel) fun h fn q => ?_
  refine s_kd rfl ?_
  refine Sk_o (n_54 (X := X) (d := d + 9) h) fun v h hq => ?_
  replace q := Rq_ap (Rq_fn q hq.1 (by decide +kernel)) hq.2
  replace fn := Fn_tr fn hq.1 (by decide) (by decide)
  (try simp (disch := decide) only [Tk_app, Nat.reduceAdd, Tk_len, nlit])
  refine s_un2 (by decide) ?_
  refine s_putq 9 rfl rfl (by decide) fn q (by decide) (by decide +kernel) fun h fn q => ?_
  refine s_kd rfl ?_
  refine Sk_o (n_76 (X := X) (d := d + 9) h) fun v h hq => ?_
  replace q := Rq_ap (Rq_fn q hq.1 (by decide +kernel)) hq.2
  replace fn := Fn_tr fn hq.1 (by decide) (by decide)
  (try simp (disch := decide) only [Tk_app, Nat.reduceAdd, Tk_len, nlit])
  refine s_un2 (by decide) ?_
  refine s_putq 10 rfl rfl (by decide) fn q (by decide) (by decide +kernel) fun h fn q => ?_
  refine s_getq 8 (125) rfl rfl q (by decide +kernel) ?_
  refine s_kd rfl ?_
  have h2 : rd h 141 2 = 0 := Rq_has q (by decide +kernel)
  replace q := Rq_sub q (L' := [(1, 10, 138), (138, 2, 140), (138, 0, 139), (1, 9, 134), (134, 3, 137), (134, 2, 136), (134, 0, 135), (1, 8, 125), (125, 7, 133), (125, 6, 132), (125, 5, 131), (125, 4, 130), (125, 3, 129), (125, 2, 128), (125, 1, 127), (125, 0, 126), (61, 2, 104), (104, 2, 105), (104, 3, 106), (104, 4, 107), (104, 5, 108), (104, 6, 109), (104, 7, 110), (104, 8, 111), (104, 9, 112), (104, 10, 113), (104, 11, 114), (104, 12, 115), (104, 13, 116), (104, 19, 117), (117, 2, 118), (117, 3, 119), (117, 4, 120), (117, 5, 121), (117, 6, 122), (117, 7, 123), (117, 8, 124), (104, 0, 0), (104, 1, 0), (104, 14, -1), (105, 0, 6), (105, 1, 0), (105, 2, 2), (105, 3, 2), (117, 0, 0), (117, 1, 0), (61, 1, 83), (83, 2, 84), (83, 3, 85), (83, 4, 86), (83, 5, 87), (83, 6, 88), (83, 7, 89), (83, 8, 90), (83, 9, 91), (83, 10, 92), (83, 11, 93), (83, 12, 94), (83, 13, 95), (83, 19, 96), (96, 2, 97), (96, 3, 98), (96, 4, 99), (96, 5, 100), (96, 6, 101), (96, 7, 102), (96, 8, 103), (83, 0, 0), (83, 1, 0), (83, 14, -1), (84, 0, 6), (84, 1, 0), (84, 2, 2), (84, 3, 2), (96, 0, 0), (96, 1, 0), (61, 0, 62), (62, 2, 63), (62, 3, 64), (62, 4, 65), (62, 5, 66), (62, 6, 67), (62, 7, 68), (62, 8, 69), (62, 9, 70), (62, 10, 71), (62, 11, 72), (62, 12, 73), (62, 13, 74), (62, 19, 75), (75, 2, 76), (75, 3, 77), (75, 4, 78), (75, 5, 79), (75, 6, 80), (75, 7, 81), (75, 8, 82), (62, 0, 0), (62, 1, 0), (62, 14, -1), (63, 0, 6), (63, 1, 0), (63, 2, 2), (63, 3, 2), (75, 0, 0), (75, 1, 0), (1, 7, 61), (1, 6, 40), (40, 2, 41), (40, 3, 42), (40, 4, 43), (40, 5, 44), (40, 6, 45), (40, 7, 46), (40, 8, 47), (40, 9, 48), (40, 10, 49), (40, 11, 50), (40, 12, 51), (40, 13, 52), (40, 19, 53), (53, 2, 54), (53, 3, 55), (53, 4, 56), (53, 5, 57), (53, 6, 58), (53, 7, 59), (53, 8, 60), (40, 0, 0), (40, 1, 0), (40, 14, -1), (41, 0, 6), (41, 1, 0), (41, 2, 2), (41, 3, 2), (53, 0, 0), (53, 1, 0), (1, 5, 19), (19, 2, 20), (19, 3, 21), (19, 4, 22), (19, 5, 23), (19, 6, 24), (19, 7, 25), (19, 8, 26), (19, 9, 27), (19, 10, 28), (19, 11, 29), (19, 12, 30), (19, 13, 31), (19, 19, 32), (32, 2, 33), (32, 3, 34), (32, 4, 35), (32, 5, 36), (32, 6, 37), (32, 7, 38), (32, 8, 39), (19, 0, 0), (19, 1, 0), (19, 14, -1), (20, 0, 6), (20, 1, 0), (20, 2, 2), (20, 3, 2), (32, 0, 0), (32, 1, 0), (1, 4, 17), (17, 1, 18), (17, 0, 11), (1, 3, 16), (16, 0, 11), (1, 2, 11), (11, 1, 15), (11, 4, 14), (11, 3, 13), (11, 2, 12), (11, 0, 10), (15, 0, 1819242087), (15, 1, 7566702), (15, 2, 444199957093), (15, 3, 1868850291), (15, 4, 499967946343), (15, 5, 491327153000), (15, 6, 131277443786868), (15, 7, 108243466677107), (15, 8, 7168366), (15, 9, 8319400191629685864), (15, 10, 1818846821), (15, 11, 448545973363), (15, 12, 1835361652), (15, 13, 1919251316), (15, 14, 26479), (15, 15, 1650549611), (15, 16, 126943972911973), (15, 17, 1751474540), (15, 18, 6385273), (15, 19, 2003330414), (15, 20, 1852137842), (15, 21, 108243635103086), (15, 22, 112602892498035), (15, 23, 1819242352), (15, 24, 6647396), (15, 25, 1937010544), (1, 1, 10), (1, 0, 2), (8, 3, -1), (8, 2, -1), (8, 1, -1), (8, 0, -1), (2, 2, 9), (2, 1, 8), (2, 0, 3), (3, 0, 4), (3, 1, 5), (3, 2, 6), (3, 3, 7), (1, 13, 0), (1, 14, 0), (1, 15, 0), (1, 18, 0), (143, 2, 0), (143, 3, 0), (143, 10, 0), (143, 38, 0), (143, 39, 0)]) (by decide +kernel)
  refine Sk_o (n_67a (X := X) (d := d + 9) h h2) fun v h hq => ?_
  replace q := Rq_ap (Rq_fn q hq.1 (by decide +kernel)) hq.2
  replace fn := Fn_tr fn hq.1 (by decide) (by decide)
  (try simp (disch := decide) only [Tk_app, Nat.reduceAdd, Tk_len, nlit])
  refine s_un2 (by decide) ?_
  refine s_putq 11 rfl rfl (by decide) fn q (by decide) (by decide +kernel) fun h fn q => ?_
  refine s_getq 8 (125) rfl rfl q (by decide +kernel) ?_
  refine s_kd rfl ?_
  refine Sk_o (n_67b (X := X) (d := d + 9) h) fun v h hq => ?_
  replace q := Rq_ap (Rq_fn q hq.1 (by decide +kernel)) hq.2
  replace fn := Fn_tr fn hq.1 (by decide) (by decide)
  (try simp (disch := decide) only [Tk_app, Nat.reduceAdd, Tk_len, nlit])
  refine s_un2 (by decide) ?_
  refine s_putq 12 rfl rfl (by decide) fn q (by decide) (by decide +kernel) fun h fn q => ?_
  refine s_putq 16 rfl rfl (by decide) fn q (by decide) (by decide +kernel) fun h fn q => ?_
  refine s_putq 17 rfl rfl (by decide) fn q (by decide) (by decide +kernel) fun h fn q => ?_
  refine s_putq 19 rfl rfl (by decide) fn q (by decide) (by decide +kernel) fun h fn q => ?_
  exact Sk_some q

end
