/-! the words are there; so every run of the abstract machine is the machine's -/
theorem LK_ok : LK := by
  refine ⟨mem_of_map ok_fls (fun _ _ h => tbl_get h) (fun _ => rfl), mem_of_map ok_mls (fun _ _ h => tbl_get h) (fun _ => rfl), fun f hf => ⟨mem_of_map ok_cls (fun _ _ h => tbl_get h) (fun _ => rfl) f hf, ?_⟩, fun f hf => ⟨mem_of_map ok_lcs (fun _ _ h => tbl_get h) (fun _ => rfl) f hf, ?_⟩, mem_of_map ok_kls (fun _ _ h => tbl_get h) (fun _ => rfl), mem_of_map ok_gls (fun _ _ h => tbl_get h) (fun _ => rfl), mem_of_map ok_ols (fun _ _ h => tbl_get h) (fun _ => rfl), mem_of_map ok_als (fun _ _ h => tbl_get h) (fun _ => rfl), mem_of_map ok_inst (fun _ _ h => tbl_get h) (fun _ => rfl), mem_of_map ok_stat (fun _ _ h => tbl_get h) (fun _ => rfl), mem_of_map ok_sel (fun _ _ h => tbl_get h) (fun _ => rfl), fun y hy => ?_, fun y hy hne => ?_, str_v, str_c, mem_of_map ok_xls (fun _ _ h => tbl_get h) (fun _ => rfl)⟩
  · have := List.all_eq_true.mp cls_ok f hf
    simpa [xkI] using this
  · have := List.all_eq_true.mp lcs_ok f hf
    simpa [okJ] using this
  · have := List.all_eq_true.mp ini_cls y (List.mem_range.mpr hy)
    obtain ⟨f, h1, h2⟩ := List.any_eq_true.mp this
    have h3 := ini_all f h1
    rw [beq_iff_eq.mp h2] at h3
    exact h3
  · have h1 := cod_all y hy
    have h2 := List.all_eq_true.mp law_only y (List.mem_range.mpr hy)
    unfold codeOkB at h1
    simp only [Bool.or_eq_true, beq_iff_eq, decide_eq_true_eq, Bool.not_eq_true', beq_eq_false_iff_ne] at h1 h2
    rcases h2 with h2 | h2
    · rcases h1 with h1 | h1
      · exact absurd h1 h2
      · exact TG_of (tbl_get h1) rfl
    · exact absurd h2 hne
theorem sim_all (M : MNA) {G : GG} {l : Launch} (n : Nat) : SimAt G l n := simW M LK_ok chk_all n
