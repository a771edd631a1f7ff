/-! the classes by number: their words, types, names (written by wip/tools/genclsin.py) -/
theorem ci_in_0 : ([520, 522, 524, 526, 528, 530, 532, 534, 536, 538, 540, 542, 544] : List Nat).map (fun p => lw_tbl[p]?) = (u_ws RX0 TX0 13).map some := by decide +kernel
theorem ci_ins_0 : (([(498, Cond.instantiable "BestMenDuel$Bout" 13), (133, Cond.initialized "BestMenDuel$Bout")] : List (Nat × Cond)).map (fun p => lw_tbl[p.1]?)) = ([(498, Cond.instantiable "BestMenDuel$Bout" 13), (133, Cond.initialized "BestMenDuel$Bout")] : List (Nat × Cond)).map (fun p => some p.2) := by decide +kernel
theorem ci_in_1 : ([455, 457, 459, 461, 463, 465, 467, 469, 471, 473, 475, 477, 479, 481, 483, 485, 487, 489, 491, 493] : List Nat).map (fun p => lw_tbl[p]?) = (u_ws RX1 TX1 20).map some := by decide +kernel
theorem ci_ins_1 : (([(316, Cond.instantiable "BestMenDuel$Dawn" 20), (130, Cond.initialized "BestMenDuel$Dawn")] : List (Nat × Cond)).map (fun p => lw_tbl[p.1]?)) = ([(316, Cond.instantiable "BestMenDuel$Dawn" 20), (130, Cond.initialized "BestMenDuel$Dawn")] : List (Nat × Cond)).map (fun p => some p.2) := by decide +kernel
theorem ci_in_2 : ([286, 288, 290] : List Nat).map (fun p => lw_tbl[p]?) = (u_ws RX2 TX2 3).map some := by decide +kernel
theorem ci_ins_2 : (([(278, Cond.instantiable "BestMenDuel$DawnReader" 3), (128, Cond.initialized "BestMenDuel$DawnReader")] : List (Nat × Cond)).map (fun p => lw_tbl[p.1]?)) = ([(278, Cond.instantiable "BestMenDuel$DawnReader" 3), (128, Cond.initialized "BestMenDuel$DawnReader")] : List (Nat × Cond)).map (fun p => some p.2) := by decide +kernel
theorem ci_in_3 : ([562, 564, 566, 568, 570, 572, 574] : List Nat).map (fun p => lw_tbl[p]?) = (u_ws RX3 TX3 7).map some := by decide +kernel
theorem ci_ins_3 : (([(548, Cond.instantiable "BestMenDuel$Gifts" 7), (134, Cond.initialized "BestMenDuel$Gifts")] : List (Nat × Cond)).map (fun p => lw_tbl[p.1]?)) = ([(548, Cond.instantiable "BestMenDuel$Gifts" 7), (134, Cond.initialized "BestMenDuel$Gifts")] : List (Nat × Cond)).map (fun p => some p.2) := by decide +kernel
theorem ci_in_4 : ([617, 619, 621, 623, 625, 627, 629, 631, 633] : List Nat).map (fun p => lw_tbl[p]?) = (u_ws RX4 TX4 9).map some := by decide +kernel
theorem ci_ins_4 : (([(596, Cond.instantiable "BestMenDuel$Living" 9), (136, Cond.initialized "BestMenDuel$Living")] : List (Nat × Cond)).map (fun p => lw_tbl[p.1]?)) = ([(596, Cond.instantiable "BestMenDuel$Living" 9), (136, Cond.initialized "BestMenDuel$Living")] : List (Nat × Cond)).map (fun p => some p.2) := by decide +kernel
theorem ci_in_5 : ([588, 590, 592] : List Nat).map (fun p => lw_tbl[p]?) = (u_ws RX5 TX5 3).map some := by decide +kernel
theorem ci_ins_5 : (([(578, Cond.instantiable "BestMenDuel$Order" 3), (135, Cond.initialized "BestMenDuel$Order")] : List (Nat × Cond)).map (fun p => lw_tbl[p.1]?)) = ([(578, Cond.instantiable "BestMenDuel$Order" 3), (135, Cond.initialized "BestMenDuel$Order")] : List (Nat × Cond)).map (fun p => some p.2) := by decide +kernel
theorem ci_in_6 : ([246, 248, 250, 252, 254, 256, 258, 260, 262, 264, 266, 268, 270, 272] : List Nat).map (fun p => lw_tbl[p]?) = (u_ws RX7 TX7 14).map some := by decide +kernel
theorem ci_ins_6 : (([(170, Cond.instantiable "BestMenDuel$Tokens" 14), (123, Cond.initialized "BestMenDuel$Tokens")] : List (Nat × Cond)).map (fun p => lw_tbl[p.1]?)) = ([(170, Cond.instantiable "BestMenDuel$Tokens" 14), (123, Cond.initialized "BestMenDuel$Tokens")] : List (Nat × Cond)).map (fun p => some p.2) := by decide +kernel
theorem ci_in_7 : ([160, 162, 164] : List Nat).map (fun p => lw_tbl[p]?) = (u_ws RX8 TX8 3).map some := by decide +kernel
theorem ci_ins_7 : (([(150, Cond.instantiable "BestMenDuel$Trays" 3), (122, Cond.initialized "BestMenDuel$Trays")] : List (Nat × Cond)).map (fun p => lw_tbl[p.1]?)) = ([(150, Cond.instantiable "BestMenDuel$Trays" 3), (122, Cond.initialized "BestMenDuel$Trays")] : List (Nat × Cond)).map (fun p => some p.2) := by decide +kernel
theorem ci_in_8 : ([355, 357, 359, 361, 363, 365, 367, 369, 371] : List Nat).map (fun p => lw_tbl[p]?) = (u_ws RX9 TX9 9).map some := by decide +kernel
theorem ci_ins_8 : (([(322, Cond.instantiable "BestMenDuel$Years" 9), (131, Cond.initialized "BestMenDuel$Years")] : List (Nat × Cond)).map (fun p => lw_tbl[p.1]?)) = ([(322, Cond.instantiable "BestMenDuel$Years" 9), (131, Cond.initialized "BestMenDuel$Years")] : List (Nat × Cond)).map (fun p => some p.2) := by decide +kernel
theorem ci_in_9 : ([304, 306, 308, 310, 312] : List Nat).map (fun p => lw_tbl[p]?) = (u_ws RX10 TX10 5).map some := by decide +kernel
theorem ci_ins_9 : (([(294, Cond.instantiable "BestMenDuel$YearsReader" 5), (129, Cond.initialized "BestMenDuel$YearsReader")] : List (Nat × Cond)).map (fun p => lw_tbl[p.1]?)) = ([(294, Cond.instantiable "BestMenDuel$YearsReader" 5), (129, Cond.initialized "BestMenDuel$YearsReader")] : List (Nat × Cond)).map (fun p => some p.2) := by decide +kernel
theorem ci_in_10 : ([656, 658, 660, 662, 664, 666, 668, 670, 672, 674, 676, 678, 680, 682, 684, 686, 688, 690, 692, 694] : List Nat).map (fun p => lw_tbl[p]?) = (u_ws RX11 TX11 20).map some := by decide +kernel
theorem ci_ins_10 : (([(142, Cond.instantiable "BestMenDuel" 20), (121, Cond.initialized "BestMenDuel")] : List (Nat × Cond)).map (fun p => lw_tbl[p.1]?)) = ([(142, Cond.instantiable "BestMenDuel" 20), (121, Cond.initialized "BestMenDuel")] : List (Nat × Cond)).map (fun p => some p.2) := by decide +kernel
theorem ci_in_11 : ([1528, 1530, 1532, 1534, 1536, 1538, 1540, 1542, 1544, 1546, 1548, 1550, 1552, 1554, 1556, 1558, 1560, 1562, 1564, 1566, 1568, 1570, 1572, 1574, 1576, 1578, 1580, 1582, 1584, 1586, 1588, 1590, 1592, 1594, 1596, 1598, 1600, 1602, 1604, 1606] : List Nat).map (fun p => lw_tbl[p]?) = (u_ws RX12 TX12 40).map some := by decide +kernel
theorem ci_ins_11 : (([(1479, Cond.instantiable "BestMenDuelModel" 40), (137, Cond.initialized "BestMenDuelModel")] : List (Nat × Cond)).map (fun p => lw_tbl[p.1]?)) = ([(1479, Cond.instantiable "BestMenDuelModel" 40), (137, Cond.initialized "BestMenDuelModel")] : List (Nat × Cond)).map (fun p => some p.2) := by decide +kernel
theorem mem_places {ps : List Nat} {ws : List Cond} (h : ps.map (fun p => lw_tbl[p]?) = ws.map some) : ∀ w ∈ ws, w ∈ lw_tbl := by
  intro w hw
  have h1 : some w ∈ ws.map some := List.mem_map.mpr ⟨w, hw, rfl⟩
  rw [← h] at h1
  obtain ⟨p, -, hp⟩ := List.mem_map.mp h1
  exact List.mem_of_getElem? hp
theorem u_good (C : String) (T : u_T) (N : Nat) : ∀ w ∈ u_ws C T N, goodWord w = true := by
  intro w hw
  obtain ⟨k, -, rfl⟩ := List.mem_map.mp hw
  unfold u_lay
  split <;> rfl
theorem TG_of {w : Cond} (h : w ∈ lw_tbl) (hg : goodWord w = true) : w ∈ TG := List.mem_filter.mpr ⟨h, hg⟩
theorem cl_cases {P : Nat → Prop} {ci : Nat} (h : ci < 12) (h0 : P 0) (h1 : P 1) (h2 : P 2) (h3 : P 3) (h4 : P 4) (h5 : P 5) (h6 : P 6) (h7 : P 7) (h8 : P 8) (h9 : P 9) (h10 : P 10) (h11 : P 11) : P ci := by
  match ci, h with
  | 0, _ => exact h0
  | 1, _ => exact h1
  | 2, _ => exact h2
  | 3, _ => exact h3
  | 4, _ => exact h4
  | 5, _ => exact h5
  | 6, _ => exact h6
  | 7, _ => exact h7
  | 8, _ => exact h8
  | 9, _ => exact h9
  | 10, _ => exact h10
  | 11, _ => exact h11
theorem cl_at {ci : Nat} (h : ci < 12) : vwCl[ci]? = some (clN ci) := cl_cases (P := fun ci => vwCl[ci]? = some (clN ci)) h rfl rfl rfl rfl rfl rfl rfl rfl rfl rfl rfl rfl
theorem cl_in {ci : Nat} (h : ci < 12) : ∀ w ∈ u_ws (clN ci).1 (clN ci).2.1 (clN ci).2.2, w ∈ TG := fun w hw => TG_of (cl_cases (P := fun ci => ∀ w ∈ u_ws (clN ci).1 (clN ci).2.1 (clN ci).2.2, w ∈ lw_tbl) h (mem_places ci_in_0) (mem_places ci_in_1) (mem_places ci_in_2) (mem_places ci_in_3) (mem_places ci_in_4) (mem_places ci_in_5) (mem_places ci_in_6) (mem_places ci_in_7) (mem_places ci_in_8) (mem_places ci_in_9) (mem_places ci_in_10) (mem_places ci_in_11) w hw) (u_good _ _ _ w hw)
theorem cl_ty {ci : Nat} (h : ci < 12) : ∀ k, k < (clN ci).2.2 → parseFieldDescriptor ((clN ci).2.1 k).2.2.1 = some (tyC ci k) := cl_cases (P := fun ci => ∀ k, k < (clN ci).2.2 → parseFieldDescriptor ((clN ci).2.1 k).2.2.1 = some (tyC ci k)) h tyX0_ok tyX1_ok tyX2_ok tyX3_ok tyX4_ok tyX5_ok tyX7_ok tyX8_ok tyX9_ok tyX10_ok tyX11_ok tyX12_ok
theorem cl_nm {ci : Nat} (h : ci < 12) : ∀ a, a < (clN ci).2.2 → ∀ b, b < (clN ci).2.2 → a ≠ b → ((clN ci).2.1 a).2.1 ≠ ((clN ci).2.1 b).2.1 := cl_cases (P := fun ci => ∀ a, a < (clN ci).2.2 → ∀ b, b < (clN ci).2.2 → a ≠ b → ((clN ci).2.1 a).2.1 ≠ ((clN ci).2.1 b).2.1) h nmX0 nmX1 nmX2 nmX3 nmX4 nmX5 nmX7 nmX8 nmX9 nmX10 nmX11 nmX12
theorem mem_pair {ps : List (Nat × Cond)} (h : ps.map (fun p => lw_tbl[p.1]?) = ps.map (fun p => some p.2)) : ∀ p ∈ ps, p.2 ∈ lw_tbl := by
  intro p hp
  have h1 : ∀ q ∈ ps, lw_tbl[q.1]? = some q.2 := by
    intro q hq
    exact List.map_inj_left.mp h q hq
  exact List.mem_of_getElem? (h1 p hp)
theorem cl_inst {ci : Nat} (h : ci < 12) : Cond.instantiable (clN ci).1 (clN ci).2.2 ∈ TG ∧ Cond.initialized (clN ci).1 ∈ TG := by
  have g : ∀ {a b c d}, ([(a, Cond.instantiable c d), (b, Cond.initialized c)].map (fun p => lw_tbl[p.1]?)) = ([(a, Cond.instantiable c d), (b, Cond.initialized c)] : List (Nat × Cond)).map (fun p => some p.2) → Cond.instantiable c d ∈ TG ∧ Cond.initialized c ∈ TG := fun h => ⟨TG_of (mem_pair h _ (List.mem_cons_self)) rfl, TG_of (mem_pair h _ (List.mem_cons_of_mem _ List.mem_cons_self)) rfl⟩
  exact cl_cases (P := fun ci => Cond.instantiable (clN ci).1 (clN ci).2.2 ∈ TG ∧ Cond.initialized (clN ci).1 ∈ TG) h (g ci_ins_0) (g ci_ins_1) (g ci_ins_2) (g ci_ins_3) (g ci_ins_4) (g ci_ins_5) (g ci_ins_6) (g ci_ins_7) (g ci_ins_8) (g ci_ins_9) (g ci_ins_10) (g ci_ins_11)
theorem cl_dec {ci : Nat} (h : ci < 12) : ∀ k, k < (clN ci).2.2 → ((clN ci).2.1 k).1 = (clN ci).1 := cl_cases (P := fun ci => ∀ k, k < (clN ci).2.2 → ((clN ci).2.1 k).1 = (clN ci).1) h (by decide +kernel) (by decide +kernel) (by decide +kernel) (by decide +kernel) (by decide +kernel) (by decide +kernel) (by decide +kernel) (by decide +kernel) (by decide +kernel) (by decide +kernel) (by decide +kernel) (by decide +kernel)
def isFT (t : FieldType) : Bool := match t with
  | .int => true
  | .boolean => true
  | .long => true
  | .object _ => true
  | .array _ => true
  | _ => false
theorem cl_ft {ci : Nat} (h : ci < 12) : ∀ k, k < (clN ci).2.2 → isFT (tyC ci k) = true := cl_cases (P := fun ci => ∀ k, k < (clN ci).2.2 → isFT (tyC ci k) = true) h (by decide +kernel) (by decide +kernel) (by decide +kernel) (by decide +kernel) (by decide +kernel) (by decide +kernel) (by decide +kernel) (by decide +kernel) (by decide +kernel) (by decide +kernel) (by decide +kernel) (by decide +kernel)
