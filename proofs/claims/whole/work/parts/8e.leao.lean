/-! the least hurt told by the model -/
def qLeast (s : Int → Int) : Int × Int := (leN s, 0)
section
variable {X : Xs} {d : Nat} {g : Mem} {s : Int → Int} {N : Int}
theorem m_322 (r : RM g s) (hi : Iv N s) (hN : N < 1000000) : Ok (fun _ g' => F159 g g' ∧ Tl s 0 g') (MI X (d + 3) 322 [.inr (.inr 143)] S0 (ov g)) := by
  have i2 := hi.2.2.1
  have i3 := hi.2.2.2.1
  have p6 := pow_64 (n := (s 1).toNat) (by omega)
  have p0 : 0 < 2 ^ (s 1).toNat := Nat.two_pow_pos _
  have a1 : rd g 144 1 = s 1 := r 1 (by omega) (by omega)
  rw [e_322]
  simp (disch := omega) only [↓K_mod, ↓G_mod, ↓al_144 _, a1]
  rw [shl_p i2 (by omega), w32_id (x := ((2 ^ (s 1).toNat : Nat) : Int) - 1) (by omega) (by omega)]
  exact m_322_o (d := d) hi hN (2 ^ (s 1).toNat) g (Nat.le_refl _) r (fun T h1 h2 => by omega)
theorem cn_nul (k : Nat) (h : k ≤ 6) : cnF 0 k 0 = 0 := cnF_nul 0 k 0 (fun i h1 h2 => bi_hi (K := 0) (by omega) (by decide) (by omega) (by omega) (by omega))
theorem leV_0 (hi : Iv N s) : leV s 0 = leN s := by
  have i2 := hi.2.2.1
  have i3 := hi.2.2.2.1
  unfold leV leN
  rw [cn_nul (s 1).toNat (by omega), Int.sub_zero]
theorem m_323 (r : RM g s) (hi : Iv N s) (hN : N < 1000000) : AnM g (qLeast s) (MI X (d + 4) 323 [.inr (.inr 143)] S0 (ov g)) := by
  have p0 : 0 < 2 ^ (s 1).toNat := Nat.two_pow_pos _
  rw [e_323, K_mod]
  refine Ok_bind (m_322 r hi hN) ?_
  rintro v g2 ⟨f2, tl⟩
  have z := tl 0 (by omega) (by omega)
  rw [leV_0 hi] at z
  simp (disch := omega) only [↓G_mod, ↓K_mod, ↓al_159 _, z]
  exact AnM_tell (FN_159 f2) _
end
