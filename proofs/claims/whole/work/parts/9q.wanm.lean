/-! what is wanted next, the model -/
theorem pm_cm : ∀ w : Fin 27, cmP (pmP ((w.val : Int) - 1)) = (w.val : Int) - 1 := by decide
theorem pm_eq {a b : Int} (a0 : -1 ≤ a) (a1 : a < 26) (b0 : -1 ≤ b) (b1 : b < 26) : pmP a = pmP b ↔ a = b := by
  refine ⟨fun h => ?_, fun h => by rw [h]⟩
  have x := pm_cm ⟨(a + 1).toNat, by omega⟩
  have y := pm_cm ⟨(b + 1).toNat, by omega⟩
  simp only [show (((a + 1).toNat : Nat) : Int) - 1 = a by omega] at x
  simp only [show (((b + 1).toNat : Nat) : Int) - 1 = b by omega] at y
  rw [h, y] at x
  exact x.symm
def Mg (t : Int → Int) (n : Int) (g : Mem) (q : Int) : Prop := Tm t n g ∧ Ms t n g q ∧ rd g 143 18 = 0 ∧ rd g 143 17 = -1
theorem FMt_2 {g g1 : Mem} (h : FMt g g1) (c0 k x : Int) (hc : 0 ≤ c0) (hk : 0 ≤ k) : FMt (wr g c0 k x) (wr g1 c0 k x) := fun c i a b e => by
  by_cases z : c = c0
  · subst z
    rw [rd_wr_if _ _ _ hk b, rd_wr_if _ _ _ hk b]
    by_cases w : i = k
    · rw [if_pos w, if_pos w]
    · rw [if_neg w, if_neg w]; exact h c i a b e
  · rw [rd_wr_ne _ _ _ _ hc a z, rd_wr_ne _ _ _ _ hc a z]; exact h c i a b e
section
variable {X : Xs} {d : Nat} {g : Mem} {t : Int → Int} {n q : Int} {σ : Type} {P : Rr σ → Int → Mem → Prop} {f : Int → Sh → Mem → Option Rs}
theorem Ms_wr {c0 : Int} (ms : Ms t n g q) (h : 0 ≤ c0) (hc : c0 ≠ 143) (k x : Int) : Ms t n (wr g c0 k x) q := by
  unfold Ms
  rw [rd_wr_ne _ _ _ _ h (by omega) (by omega), rd_wr_ne _ _ _ _ h (by omega) (by omega), rd_wr_ne _ _ _ _ h (by omega) (by omega), rd_wr_ne _ _ _ _ h (by omega) (by omega)]
  exact ms
theorem Mg_wr {c0 : Int} (mg : Mg t n g q) (h : 0 ≤ c0) (hc : c0 ≠ 143) (hc2 : c0 ≠ 150) (k x : Int) : Mg t n (wr g c0 k x) q := by
  obtain ⟨⟨a, b⟩, c, e⟩ := mg
  exact ⟨⟨(rd_wr_ne _ _ _ _ h (by omega) (by omega)).trans a, fun i y z => (rd_wr_ne _ _ _ _ h (by omega) (by omega)).trans (b i y z)⟩, Ms_wr c h hc k x, (rd_wr_ne _ _ _ _ h (by omega) (by omega)).trans e.1, (rd_wr_ne _ _ _ _ h (by omega) (by omega)).trans e.2⟩
theorem Mg_w20 (mg : Mg t n g q) (x : Int) : Mg t n (wr g 143 20 x) q := by
  obtain ⟨⟨a, b⟩, c, e⟩ := mg
  refine ⟨⟨(rd_wr_ix _ _ (by omega) (by omega) (by omega)).trans a, fun i y z => (rd_wr_ne _ _ _ _ (by omega) (by omega) (by omega)).trans (b i y z)⟩, ?_, (rd_wr_ix _ _ (by omega) (by omega) (by omega)).trans e.1, (rd_wr_ix _ _ (by omega) (by omega) (by omega)).trans e.2⟩
  unfold Ms
  rw [rd_wr_ix _ _ (by omega) (by omega) (by omega), rd_wr_ix _ _ (by omega) (by omega) (by omega), rd_wr_ix _ _ (by omega) (by omega) (by omega), rd_wr_ix _ _ (by omega) (by omega) (by omega)]
  exact c
theorem k_221 (mg : Mg t n g q) (why : Int) (hf : ∀ g', FNt g g' → Mf g' (fcP t n q why) q → Ok (P (pBad t n q why)) (f 0 S0 (ov g'))) (hw : 0 < why ∧ why < 100 := by decide) : Ok (P (pBad t n q why)) (oC (MI X d 221 [.inr (.inr 143), .inl why] S0 (ov g)) f) := by
  obtain ⟨v, g1, e, rfl, mf, fn⟩ := m_221 (X := X) (d := d) mg.2.1 mg.2.2.1 why hw
  rw [oC_of e]
  exact hf g1 fn mf
theorem k_218 (hr : txR t n) (mg : Mg t n g q) {r : Rr σ} (hs : ∀ v g', FMt g g' → Mg t n g' (nxP t n q) → Ok (P r) (f v S0 (ov g'))) : Ok (P r) (oC (MI X (d + 1) 218 [.inr (.inr 143)] S0 (ov g)) f) := by
  obtain ⟨tm, ms, z⟩ := id mg
  obtain ⟨-, -, h14, -, q0, q1⟩ := id ms
  have e : q ≤ enP t n q ∧ enP t n q ≤ n := by
    by_cases w : n ≤ q
    · have : enP t n q = n := if_pos w
      omega
    · have := enP_b t w
      omega
  obtain ⟨v, g1, e1, ms1, fm⟩ := m_218 (X := X) (d := d) hr (p := enP t n q) (by omega) e.2 tm h14
  rw [oC_of e1]
  exact hs v g1 fm ⟨Tm_FM tm fm, ms1, (fm _ _ (by omega) (by omega) (by omega)).trans z.1, (fm _ _ (by omega) (by omega) (by omega)).trans z.2⟩
theorem k_223 (hr : txR t n) (mg : Mg t n g q) {K : Rr σ} (hs : kdP t n q = 3 → ∀ g', FMt g g' → Mg t n g' (nxP t n q) → Ok (P K) (f 1 S0 (ov g'))) (hf : ∀ g', FNt g g' → Mf g' (fcP t n q 2) q → Ok (P (pBad t n q 2)) (f 0 S0 (ov g'))) : Ok (P (pStop t n q K)) (oC (MI X (d + 2) 223 [.inr (.inr 143), .inl 59] S0 (ov g)) f) := by
  rw [e_223]
  simp only [↓K_mod, ↓oC_of (m_219 mg.2.1 59), ↓if_b2i]
  unfold pStop
  by_cases h : kdP t n q = 3 ∧ vaP t n q = 59
  · rw [if_pos h, if_pos h, oC_as]
    exact k_218 hr mg (fun v g1 fm m1 => hs h.1 g1 fm m1)
  · rw [if_neg h, if_neg h, oC_as]
    exact k_221 mg 2 (fun g1 fn mf => hf g1 fn mf)
theorem k_224 (hr : txR t n) (mg : Mg t n g q) {K : Rr σ} (w w' : Int) (hw : w = pmP w') (w0 : 0 ≤ w') (w1 : w' < 26) (hs : ∀ g', FMt g g' → Mg t n g' (nxP t n q) → Ok (P K) (f 1 S0 (ov g'))) (hf : ∀ g', FNt g g' → Mf g' (fcP t n q 2) q → Ok (P (pBad t n q 2)) (f 0 S0 (ov g'))) : Ok (P (pWord t n q w' K)) (oC (MI X (d + 6) 224 [.inr (.inr 143), .inr (.inr (-9)), .inl w] S0 (ov g)) f) := by
  have wr' := wd_r t n q
  have pe := pm_eq wr'.1 wr'.2 (by omega) w1
  rw [e_224]
  simp only [↓K_mod, ↓oC_of (m_220 hr mg.1 mg.2.1), hw]
  unfold pWord
  by_cases h : wdP t n q = w'
  · rw [if_pos (pe.2 h), if_pos h, oC_as]
    exact k_218 hr mg (fun v g1 fm m1 => hs g1 fm m1)
  · rw [if_neg (fun z => h (pe.1 z)), if_neg h, oC_as]
    exact k_221 mg 2 (fun g1 fn mf => hf g1 fn mf)
theorem mk_3 (k : Int) : mkP k = 3 ↔ k = 2 := by unfold mkP; (repeat' split) <;> omega
theorem k_225 (hr : txR t n) (mg : Mg t n g q) {K : Int → Rr σ} (i lo hi : Int) (i0 : 0 ≤ i) (i1 : i < 3768) (hs : lo ≤ vaP t n q → vaP t n q ≤ hi → ∀ g', FMt (wr g 144 i (vaP t n q)) g' → Mg t n g' (nxP t n q) → Ok (P (K (vaP t n q))) (f 1 S0 (ov g'))) (hf : ∀ c g', FNt g g' → Mf g' (fcP t n q c) q → Ok (P (pBad t n q c)) (f 0 S0 (ov g'))) : Ok (P (pNum t n q lo hi K)) (oC (MI X (d + 2) 225 [.inr (.inr 143), .inl i, .inl lo, .inl hi] S0 (ov g)) f) := by
  obtain ⟨h12, -, -, h15, -, -⟩ := id mg.2.1
  rw [e_225]
  simp only [↓G_mod, h12]
  unfold pNum
  by_cases h : kdP t n q = 2
  · rw [if_pos ((mk_3 _).2 h), h15 (Or.inl h)]
    simp only [if_pos h]
    by_cases a : vaP t n q < lo
    · rw [if_pos a, if_neg (by omega)]
      simp only [↓K_mod]
      rw [oC_as]
      exact k_221 mg 4 (fun g1 fn mf => hf 4 g1 fn mf)
    · rw [if_neg a]
      by_cases c : hi < vaP t n q
      · rw [if_pos c, if_neg (by omega)]
        simp only [↓K_mod]
        rw [oC_as]
        exact k_221 mg 4 (fun g1 fn mf => hf 4 g1 fn mf)
      · rw [if_neg c, if_pos ⟨h, by omega, by omega⟩]
        simp (disch := omega) only [↓as_144, ↓K_mod]
        rw [oC_as]
        exact k_218 hr (Mg_wr mg (by omega) (by omega) (by omega) _ _) (fun v g1 fm m1 => hs (by omega) (by omega) g1 fm m1)
  · rw [if_neg (fun z => h ((mk_3 _).1 z)), if_neg (fun z => h z.1)]
    simp only [if_neg h, ↓K_mod]
    rw [oC_as]
    exact k_221 mg 2 (fun g1 fn mf => hf 2 g1 fn mf)
/-- a NAME stands at q -/
abbrev nmP (t : Int → Int) (n q : Int) : Prop := kdP t n q = 1 ∧ vaP t n q ≠ 0 ∧ wdP t n q = -1
theorem va_0 (hk : kdP t n q = 1) : vaP t n q = 0 ↔ ¬ enP t n q - q ≤ 8 := by
  have qn : ¬ n ≤ q := fun z => by rw [kdP_0 z] at hk; omega
  have hl : isLt (t q) := by
    unfold kdP at hk
    rw [if_neg qn] at hk
    by_cases h : isLt (t q)
    · exact h
    · rw [if_neg h] at hk
      exfalso
      (repeat' split at hk) <;> omega
  have ee : enP t n q = ewP t n q := by unfold enP; rw [if_neg qn, if_pos hl]
  have eb := ew_b t (n := n) (p := q) (by omega) hl
  rw [← ee] at eb
  rw [va_1 hk]
  by_cases h : enP t n q - q ≤ 8
  · rw [if_pos h]
    refine ⟨fun z => ?_, fun z => absurd h z⟩
    exfalso
    have e := vl_inj 0 [] (wl t q (enP t n q)) rfl (fun x hx => by cases hx) (fun x hx => by
      obtain ⟨j, j1, j2, j3⟩ := wl_mem hx
      have := eb.2.2.1 j j1 j2
      omega) (by rw [z]; rfl)
    have ln := congrArg List.length e
    rw [wl_len] at ln
    have : ([] : List Int).length = 0 := rfl
    omega
  · rw [if_neg h]
    exact ⟨fun _ => h, fun _ => rfl⟩
theorem m_226 (hr : txR t n) (tm : Tm t n g) (ms : Ms t n g q) : MI X (d + 6) 226 [.inr (.inr 143), .inr (.inr (-9))] S0 (ov g) = some (b2i (nmP t n q), S0, ov g) := by
  obtain ⟨h12, h13, h14, -, q0, q1⟩ := id ms
  have n9 := hr.2.1
  have k2 : mkP (kdP t n q) = 2 ↔ kdP t n q = 1 := by unfold mkP; (repeat' split) <;> omega
  have wr' := wd_r t n q
  rw [e_226]
  simp only [↓G_mod, h12, h13, h14]
  unfold b2i
  by_cases hk : kdP t n q = 1
  case neg => rw [if_neg (fun z => hk (k2.1 z)), if_neg (fun z => hk z.1)]
  have qn : ¬ n ≤ q := fun z => by rw [kdP_0 z] at hk; omega
  have eb := enP_b t qn
  rw [if_pos (k2.2 hk), w32_id (x := enP t n q - q) (by omega) (by omega)]
  have v0 := va_0 hk
  by_cases l : 8 < enP t n q - q
  · rw [if_pos l, if_neg (fun z => z.2.1 (v0.2 (by omega)))]
  · rw [if_neg l]
    simp only [↓K_mod, ↓oC_of (m_220 hr tm ms)]
    have pe := pm_eq wr'.1 wr'.2 (show -1 ≤ (-1 : Int) by omega) (by omega)
    rw [show pmP (-1) = -1 from rfl] at pe
    by_cases w : wdP t n q = -1
    · rw [if_pos (pe.2 w), if_pos ⟨hk, fun z => by have := v0.1 z; omega, w⟩]
    · rw [if_neg (fun z => w (pe.1 z)), if_neg (fun z => w z.2.2)]
theorem m_228_l (hr : txR t n) (tm : Tm t n g) (ms : Ms t n g q) (hn : nmP t n q) {b c : Int} (b0 : 0 ≤ b) (c8 : c ≤ 8) (bc : b + c ≤ 84) : ∀ (k : Nat) (i : Int), i + k = c → 0 ≤ i → EI X (d + 2) 228 2 [some (.inr (.inr 143)), some (.inl b), some (.inl c), some (.inl i)] [] S0 (ov g) = some (ff (fun i => decide (rd g 145 (b + i) = vaP t n q)) k i, S0, ov g) := by
  have l8 : enP t n q - q ≤ 8 := by
    have := va_0 hn.1
    by_cases z : enP t n q - q ≤ 8
    · exact z
    · exact absurd (this.2 z) hn.2.1
  intro k
  induction k with
  | zero =>
    intro i hk i0
    rw [e_228_2, if_neg (by omega)]
    rfl
  | succ k ih =>
    intro i hk i0
    rw [e_228_2, if_pos (by omega), w32_id (x := b + i) (by omega) (by omega)]
    simp (disch := omega) only [↓G_mod, ↓al_145, ↓K_mod, ↓oC_of (m_227 hr tm hn.1 ms l8), lcm_eq]
    show _ = some (bif decide (rd g 145 (b + i) = vaP t n q) then i else ff (fun i => decide (rd g 145 (b + i) = vaP t n q)) k (i + 1), S0, ov g)
    by_cases z : rd g 145 (b + i) = vaP t n q
    · rw [if_pos z, decide_eq_true z]; rfl
    · rw [if_neg z, decide_eq_false z, w32_id (x := i + 1) (by omega) (by omega)]
      exact ih (i + 1) (by omega) (by omega)
theorem m_228 (hr : txR t n) (tm : Tm t n g) (ms : Ms t n g q) (hn : nmP t n q) {b c : Int} (b0 : 0 ≤ b) (c0 : 0 ≤ c) (c8 : c ≤ 8) (bc : b + c ≤ 84) : MI X (d + 2) 228 [.inr (.inr 143), .inl b, .inl c] S0 (ov g) = some (ff (fun i => decide (rd g 145 (b + i) = vaP t n q)) c.toNat 0, S0, ov g) := by
  rw [e_228]
  exact m_228_l hr tm ms hn b0 c8 bc c.toNat 0 (by omega) (by omega)
end
