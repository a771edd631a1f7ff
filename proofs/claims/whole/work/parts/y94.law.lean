/-! THE LAW'S RUN, as the tie asks for it -/
theorem law_runs (L : Nat) (xs : Nat → Int) (hL : L ≤ 3072) (hx : ∀ j, xkI (xs j)) : ∃ (n : Nat) (S : Sh) (h : Mem), exec (L, xs) n 1000 338 0 (entF 338 [.inr (.inr (-2))]) [] [(99, 0)] (fun _ _ => 0) = some (some (.inl 1), S, h) ∧ S.length ≤ 600001 ∧ slt S ≤ 7302250 := by
  obtain ⟨n, h, e⟩ := law_exec (L, xs) (by show (L : Int) ≤ 3072; omega) hx
  exact ⟨n, S0, h, e, by decide +kernel, by decide +kernel⟩
