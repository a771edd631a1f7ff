/-! THE RUN: step, exec (n: steps, d: how deep calls may go), and its limit EX with its equation -/
def ftch (pc : Nat) : List TE → Option ((Instr × Nat) × (Nat × Nat × Nat × Int))
  | [] => none
  | e :: l => bif Nat.beq e.1 pc then some e.2 else ftch pc l
def entL (vs : List AV) : Lv := match vs with
  | [] => []
  | .inr (.inl x) :: l => some (.inr (.inl x)) :: none :: entL l
  | v :: l => some v :: entL l
def entF (y : Nat) (vs : List AV) : Lv := entL vs ++ List.replicate (mlOf y - (entL vs).length) none
def gd (y : Nat) (vs : List AV) : Bool := Nat.blt y 347 && Nat.ble (entL vs).length (mlOf y)
abbrev Cfg : Type := Nat × Lv × List AV × Sh × Mem
abbrev Cll : Type := Nat × List AV × Nat × Lv × List AV × Sh × Mem
def stepQ (X : Xs) (rk : Nat) (i : Instr) (len : Nat) (ax : Nat × Nat × Nat × Int) (pc : Nat) (ls : Lv) (st : List AV) (S : Sh) (h : Mem) : Option (Cfg ⊕ Cll ⊕ Res) :=
  stepK X rk i len ax pc ls st S h none (fun a b c d f => some (.inl (a, b, c, d, f))) (fun a b c d f g i => some (.inr (.inl (a, b, c, d, f, g, i)))) (fun a b c => some (.inr (.inr (a, b, c))))
noncomputable def stepO (X : Xs) (y pc : Nat) (ls : Lv) (st : List AV) (S : Sh) (h : Mem) : Option (Cfg ⊕ Cll ⊕ Res) :=
  match ftch pc (tabOf y) with
  | none => none
  | some e => stepQ X (rkOf y) e.1.1 e.1.2 e.2 pc ls st S h
noncomputable def exec (X : Xs) : Nat → Nat → Nat → Nat → Lv → List AV → Sh → Mem → Option Res
  | 0, _, _, _, _, _, _, _ => none
  | n + 1, d, y, pc, ls, st, S, h => match stepO X y pc ls st S h with
    | none => none
    | some (.inl c) => exec X n d y c.1 (kil y c.1 c.2.1) c.2.2.1 c.2.2.2.1 c.2.2.2.2
    | some (.inr (.inl c)) => match d with
      | 0 => none
      | d' + 1 => match (bif gd c.1 c.2.1 then exec X n d' c.1 0 (entF c.1 c.2.1) [] c.2.2.2.2.2.1 c.2.2.2.2.2.2 else none) with
        | none => none
        | some r => exec X n (d' + 1) y c.2.2.1 (kil y c.2.2.1 c.2.2.2.1) (r.1.toList ++ c.2.2.2.2.1) r.2.1 r.2.2
    | some (.inr (.inr r)) => some r
theorem exec_mono (X : Xs) : ∀ (n d y pc : Nat) (ls : Lv) (st : List AV) (S : Sh) (h : Mem) (r : Res), exec X n d y pc ls st S h = some r → exec X (n + 1) d y pc ls st S h = some r := by
  intro n
  induction n with
  | zero => intro d y pc ls st S h r e; simp [exec] at e
  | succ n ih =>
    intro d y pc ls st S h r e
    rw [exec] at e ⊢
    cases hs : stepO X y pc ls st S h with
    | none => rw [hs] at e; cases e
    | some a =>
      rw [hs] at e
      cases a with
      | inl c => exact ih _ _ _ _ _ _ _ _ e
      | inr a =>
        cases a with
        | inr c => exact e
        | inl c =>
          cases d with
          | zero => cases e
          | succ d =>
            dsimp only at e ⊢
            cases hg : gd c.1 c.2.1 with
            | false => rw [hg] at e; cases e
            | true =>
              rw [hg] at e
              dsimp only [cond] at e ⊢
              cases hc : exec X n d c.1 0 (entF c.1 c.2.1) [] c.2.2.2.2.2.1 c.2.2.2.2.2.2 with
              | none => rw [hc] at e; cases e
              | some q =>
                rw [hc] at e
                rw [ih _ _ _ _ _ _ _ _ hc]
                exact ih _ _ _ _ _ _ _ _ e
theorem exec_le (X : Xs) {n m d y pc : Nat} {ls : Lv} {st : List AV} {S : Sh} {h : Mem} {r : Res} (hnm : n ≤ m) (e : exec X n d y pc ls st S h = some r) : exec X m d y pc ls st S h = some r := by
  induction hnm with
  | refl => exact e
  | step _ ih => exact exec_mono X _ _ _ _ _ _ _ _ _ ih
theorem exec_det (X : Xs) {n m d y pc : Nat} {ls : Lv} {st : List AV} {S : Sh} {h : Mem} {r q : Res} (e : exec X n d y pc ls st S h = some r) (f : exec X m d y pc ls st S h = some q) : r = q := by
  rcases Nat.le_total n m with z | z
  · exact Option.some.inj ((exec_le X z e).symm.trans f)
  · exact Option.some.inj (e.symm.trans (exec_le X z f))
noncomputable def EX (X : Xs) (d y pc : Nat) (ls : Lv) (st : List AV) (S : Sh) (h : Mem) : Option Res :=
  @dite _ (∃ (n : Nat) (r : Res), exec X n d y pc ls st S h = some r) (Classical.propDecidable _) (fun H => some (Classical.choose (Classical.choose_spec H))) (fun _ => none)
theorem EX_iff (X : Xs) {d y pc : Nat} {ls : Lv} {st : List AV} {S : Sh} {h : Mem} {r : Res} : EX X d y pc ls st S h = some r ↔ ∃ n, exec X n d y pc ls st S h = some r := by
  unfold EX
  constructor
  · intro e
    split at e
    · next H =>
      cases e
      exact ⟨_, Classical.choose_spec (Classical.choose_spec H)⟩
    · cases e
  · intro ⟨n, e⟩
    have H : ∃ (n : Nat) (r : Res), exec X n d y pc ls st S h = some r := ⟨n, r, e⟩
    rw [dif_pos H]
    exact congrArg some (exec_det X (Classical.choose_spec (Classical.choose_spec H)) e)
/-- a method's whole run -/
noncomputable def MX (X : Xs) (d y : Nat) (vs : List AV) (S : Sh) (h : Mem) : Option Res := bif gd y vs then EX X d y 0 (entF y vs) [] S h else none
noncomputable def callX (X : Xs) (d y : Nat) : Nat → List AV → Nat → Lv → List AV → Sh → Mem → Option Res := fun y' vs pc ls st S h => match d with
  | 0 => none
  | d' + 1 => oK (MX X d' y' vs S h) none fun r => EX X (d' + 1) y pc (kil y pc ls) (r.1.toList ++ st) r.2.1 r.2.2
theorem opt_ext {α : Type} {a b : Option α} (h : ∀ r, a = some r ↔ b = some r) : a = b := by
  cases a with
  | none =>
    cases b with
    | none => rfl
    | some y => exact absurd ((h y).mpr rfl) (by simp)
  | some x => exact ((h x).mp rfl).symm
theorem EX_step (X : Xs) (d y pc : Nat) (ls : Lv) (st : List AV) (S : Sh) (h : Mem) : EX X d y pc ls st S h = match stepO X y pc ls st S h with
    | none => none
    | some (.inl c) => EX X d y c.1 (kil y c.1 c.2.1) c.2.2.1 c.2.2.2.1 c.2.2.2.2
    | some (.inr (.inl c)) => callX X d y c.1 c.2.1 c.2.2.1 c.2.2.2.1 c.2.2.2.2.1 c.2.2.2.2.2.1 c.2.2.2.2.2.2
    | some (.inr (.inr r)) => some r := by
  apply opt_ext
  intro r
  rw [EX_iff]
  cases hs : stepO X y pc ls st S h with
  | none =>
    constructor
    · rintro ⟨n, e⟩
      cases n with
      | zero => simp [exec] at e
      | succ n => rw [exec, hs] at e; exact e
    · intro e; cases e
  | some a =>
    cases a with
    | inl c =>
      dsimp only
      rw [EX_iff]
      constructor
      · rintro ⟨n, e⟩
        cases n with
        | zero => simp [exec] at e
        | succ n => rw [exec, hs] at e; exact ⟨n, e⟩
      · rintro ⟨n, e⟩
        exact ⟨n + 1, by rw [exec, hs]; exact e⟩
    | inr a =>
      cases a with
      | inr c =>
        constructor
        · rintro ⟨n, e⟩
          cases n with
          | zero => simp [exec] at e
          | succ n => rw [exec, hs] at e; exact e
        · intro e
          exact ⟨1, by rw [exec, hs]; exact e⟩
      | inl c =>
        cases d with
        | zero =>
          constructor
          · rintro ⟨n, e⟩
            cases n with
            | zero => simp [exec] at e
            | succ n => rw [exec, hs] at e; cases e
          · intro e; cases e
        | succ d =>
          dsimp only [callX]
          constructor
          · rintro ⟨n, e⟩
            cases n with
            | zero => simp [exec] at e
            | succ n =>
              rw [exec, hs] at e
              dsimp only at e
              cases hg : gd c.1 c.2.1 with
              | false => rw [hg] at e; cases e
              | true =>
                rw [hg] at e
                dsimp only [cond] at e
                cases hc : exec X n d c.1 0 (entF c.1 c.2.1) [] c.2.2.2.2.2.1 c.2.2.2.2.2.2 with
                | none => rw [hc] at e; cases e
                | some q =>
                  rw [hc] at e
                  have h1 : MX X d c.1 c.2.1 c.2.2.2.2.2.1 c.2.2.2.2.2.2 = some q := by
                    unfold MX
                    rw [hg]
                    exact (EX_iff X).mpr ⟨n, hc⟩
                  rw [h1]
                  exact (EX_iff X).mpr ⟨n, e⟩
          · intro e
            cases hc : MX X d c.1 c.2.1 c.2.2.2.2.2.1 c.2.2.2.2.2.2 with
            | none => rw [hc] at e; cases e
            | some q =>
              rw [hc] at e
              unfold MX at hc
              cases hg : gd c.1 c.2.1 with
              | false => rw [hg] at hc; cases hc
              | true =>
                rw [hg] at hc
                obtain ⟨n, h1⟩ := (EX_iff X).mp hc
                obtain ⟨k, h2⟩ := (EX_iff X).mp e
                refine ⟨max n k + 1, ?_⟩
                rw [exec, hs]
                dsimp only
                rw [hg]
                dsimp only [cond]
                rw [exec_le X (Nat.le_max_left n k) h1]
                exact exec_le X (Nat.le_max_right n k) h2
