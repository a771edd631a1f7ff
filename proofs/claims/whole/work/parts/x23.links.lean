/-! the words are there; so every run of the abstract machine is the machine's -/
theorem LK_ok : LK := by
  refine ⟨mem_of_map ok_fls (fun _ => rfl), mem_of_map ok_mls (fun _ => rfl), fun f hf => ⟨mem_of_map ok_cls (fun _ => rfl) f hf, ?_⟩, fun f hf => ⟨mem_of_map ok_lcs (fun _ => rfl) f hf, ?_⟩, mem_of_map ok_kls (fun _ => rfl), mem_of_map ok_gls (fun _ => rfl), mem_of_map ok_ols (fun _ => rfl), mem_of_map ok_als (fun _ => rfl), mem_of_map ok_inst (fun _ => rfl), mem_of_map ok_stat (fun _ => rfl), mem_of_map ok_sel (fun _ => rfl), fun y hy => ?_, fun y hy hne => ?_, str_v, str_c, mem_of_map ok_xls (fun _ => rfl)⟩
  · have := List.all_eq_true.mp cls_ok f hf
    simpa [xkI] using this
  · have := List.all_eq_true.mp lcs_ok f hf
    simpa [okJ] using this
  · have := List.all_eq_true.mp ini_cls y (List.mem_range.mpr hy)
    obtain ⟨f, h1, h2⟩ := List.any_eq_true.mp this
    have h3 := ini_all f h1
    rw [beq_iff_eq.mp h2] at h3
    exact h3
  · exact cod_all y hy hne
theorem sim_all (M : MNA) {G : GG} {l : Launch} (n : Nat) : SimAt G l n := simW M LK_ok chk_all n
