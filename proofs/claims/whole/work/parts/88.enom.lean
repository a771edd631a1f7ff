/-! enough of both -/
def stL (o : Int) : Int → List Int → List Int
  | _, [] => []
  | p, x :: xs => w64 (w64 (x * o) + w64 (p * (16 - o))) :: stL o x xs
def rowL (o : Int) : Nat → List Int → List Int
  | 0, L => L
  | k + 1, L => rowL o k (stL o 0 L)
def smL : List Int → Int → Int
  | [], z => z
  | x :: xs, z => smL xs (w64 (z + x))
def oneL : List Int := [1, 0, 0, 0, 0, 0, 0, 0, 0, 0, 0, 0, 0]
theorem en_all : ∀ n : Fin 13, ∀ o : Fin 17, ∀ d : Fin 13, smL ((rowL (o.val : Int) n.val oneL).drop d.val) 0 = biF (d.val : Int) (n.val : Int) (o.val : Int) (n.val + 1) 0 0 1 := by decide +kernel
theorem stL_len (o : Int) : ∀ (L : List Int) (p : Int), (stL o p L).length = L.length
  | [], _ => rfl
  | x :: xs, p => by
    show (stL o x xs).length + 1 = xs.length + 1
    rw [stL_len o xs x]
theorem rowL_len (o : Int) : ∀ (k : Nat) (L : List Int), (rowL o k L).length = L.length
  | 0, _ => rfl
  | k + 1, L => by
    show (rowL o k (stL o 0 L)).length = L.length
    rw [rowL_len o k, stL_len]
theorem stL_at (o : Int) : ∀ (L : List Int) (p : Int) (i : Nat), i < L.length → (stL o p L).getD i 0 = w64 (w64 (L.getD i 0 * o) + w64 ((if i = 0 then p else L.getD (i - 1) 0) * (16 - o)))
  | [], _, i, h => absurd h (Nat.not_lt_zero i)
  | x :: xs, p, 0, _ => rfl
  | x :: xs, p, i + 1, h => by
    have q := stL_at o xs x i (by simpa using h)
    show (stL o x xs).getD i 0 = w64 (w64 (xs.getD i 0 * o) + w64 ((if i + 1 = 0 then p else (x :: xs).getD i 0) * (16 - o)))
    rw [q, if_neg (Nat.succ_ne_zero i)]
    cases i with
    | zero => rfl
    | succ i => rfl
/-- the table in memory -/
def Lq (g : Mem) (L : List Int) : Prop := L.length = 13 ∧ ∀ j : Int, 0 ≤ j → j < 13 → rd g 157 j = L.getD j.toNat 0
def F157 (g g' : Mem) : Prop := ∀ c i, 0 ≤ c → c ≠ 157 → rd g' c i = rd g c i
theorem F157_tr {g g1 g2 : Mem} (h1 : F157 g g1) (h2 : F157 g1 g2) : F157 g g2 := fun c i a e => (h2 c i a e).trans (h1 c i a e)
theorem F157_rf (g : Mem) : F157 g g := fun _ _ _ _ => rfl
theorem F157_wr (g : Mem) (i x : Int) : F157 g (wr g 157 i x) := fun c j a e => rd_wr_ne g i j x (by omega) a e
theorem RM_157 {g g1 : Mem} {s : Int → Int} (r : RM g s) (f : F157 g g1) : RM g1 s := fun i a b => (f 144 i (by omega) (by omega)).trans (r i a b)
theorem FN_157 {g g1 : Mem} (f : F157 g g1) : FN g g1 := fun c i a b e k => f c i a (fun z => e (by unfold ScM; omega))
section
variable {X : Xs} {d : Nat} {g : Mem} {s : Int → Int} {N : Int}
theorem m_314_a (m o n : Int) (P : Option Rs → Prop) : ∀ (k : Nat) (j : Int) (g1 : Mem), j + k = 13 → 0 ≤ j → (∀ i, 0 ≤ i → i < j → rd g1 157 i = if i = 0 then 1 else 0) → (∀ g2, F157 g1 g2 → Lq g2 oneL → P (EI X (d + 1) 314 66 [some (.inr (.inr 143)), some (.inl m), some (.inl o), some (.inl n), some (.inr (.inl 1)), none, some (.inl 0), none, none] [] S0 (ov g2))) → P (EI X (d + 1) 314 33 [some (.inr (.inr 143)), some (.inl m), some (.inl o), some (.inl n), some (.inr (.inl 1)), none, some (.inl j), none, none] [] S0 (ov g1)) := by
  intro k
  induction k with
  | zero =>
    intro j g1 hk j0 z H
    rw [e_314_33, if_neg (show ¬ j < 13 by omega)]
    refine H g1 (F157_rf g1) ⟨rfl, fun i a b => ?_⟩
    rw [z i a (by omega)]
    have c : i = 0 ∨ i = 1 ∨ i = 2 ∨ i = 3 ∨ i = 4 ∨ i = 5 ∨ i = 6 ∨ i = 7 ∨ i = 8 ∨ i = 9 ∨ i = 10 ∨ i = 11 ∨ i = 12 := by omega
    rcases c with rfl | rfl | rfl | rfl | rfl | rfl | rfl | rfl | rfl | rfl | rfl | rfl | rfl <;> rfl
  | succ k ih =>
    intro j g1 hk j0 z H
    rw [e_314_33, if_pos (show j < 13 by omega), w32_id (x := j + 1) (by omega) (by omega)]
    simp (disch := omega) only [↓G_mod, ↓as_157]
    by_cases e : j = 0
    · rw [if_pos e]
      refine ih (j + 1) _ (by omega) (by omega) (fun i a b => ?_) (fun g2 f2 q2 => H g2 (F157_tr (F157_wr _ _ _) f2) q2)
      rw [rd_wr_if _ _ _ (by omega) a]
      by_cases c : i = j
      · rw [if_pos c, if_pos (by omega)]
      · rw [if_neg c]; exact z i a (by omega)
    · rw [if_neg e]
      refine ih (j + 1) _ (by omega) (by omega) (fun i a b => ?_) (fun g2 f2 q2 => H g2 (F157_tr (F157_wr _ _ _) f2) q2)
      rw [rd_wr_if _ _ _ (by omega) a]
      by_cases c : i = j
      · rw [if_pos c, if_neg (by omega)]
      · rw [if_neg c]; exact z i a (by omega)
theorem m_314_b (hi : Iv N s) (m o n : Int) (L : List Int) (hL : L.length = 13) (i z : Int) (i0 : 0 ≤ i) (i1 : i < 13) (P : Option Rs → Prop) : ∀ (k : Nat) (g1 : Mem), k ≤ 13 → RM g1 s → (∀ j : Int, 0 ≤ j → j < k → rd g1 157 j = L.getD j.toNat 0) → (∀ j : Int, (k : Int) ≤ j → j < 13 → rd g1 157 j = (stL (s 5) 0 L).getD j.toNat 0) → (∀ g2, F157 g1 g2 → Lq g2 (stL (s 5) 0 L) → P (EI X (d + 1) 314 66 [some (.inr (.inr 143)), some (.inl m), some (.inl o), some (.inl n), some (.inr (.inl (w64 (z * 16)))), none, some (.inl (i + 1)), none, none] [] S0 (ov g2))) → P (EI X (d + 1) 314 76 [some (.inr (.inr 143)), some (.inl m), some (.inl o), some (.inl n), some (.inr (.inl z)), none, some (.inl i), some (.inl ((k : Int) - 1)), none] [] S0 (ov g1)) := by
  obtain ⟨-, -, -, -, j2, j3, j4, j5, j6, j7, j8, j9, -⟩ := id hi
  intro k
  induction k with
  | zero =>
    intro g1 hk r old new H
    rw [e_314_76, if_pos (by omega), w32_id (x := i + 1) (by omega) (by omega)]
    exact H g1 (F157_rf g1) ⟨by rw [stL_len, hL], fun j a b => new j (by omega) b⟩
  | succ k ih =>
    intro g1 hk r old new H
    have a5 : rd g1 144 5 = s 5 := r 5 (by omega) (by omega)
    have ek : ((k + 1 : Nat) : Int) - 1 = (k : Int) := by omega
    have ok := old (k : Int) (by omega) (by omega)
    have sa := stL_at (s 5) L 0 k (by omega)
    rw [Int.toNat_natCast] at ok
    rw [e_314_76, ek, if_neg (by omega), w32_id (x := (k : Int) + -1) (by omega) (by omega), show (k : Int) + -1 = (k : Int) - 1 by omega]
    have nxt : P (EI X (d + 1) 314 76 [some (.inr (.inr 143)), some (.inl m), some (.inl o), some (.inl n), some (.inr (.inl z)), none, some (.inl i), some (.inl ((k : Int) - 1)), none] [] S0 (ov (wr g1 157 k ((stL (s 5) 0 L).getD k 0)))) := by
      have fw := F157_wr g1 k ((stL (s 5) 0 L).getD k 0)
      refine ih _ (by omega) (RM_157 r fw) (fun j a b => ?_) (fun j a b => ?_) (fun g2 f2 q2 => H g2 (F157_tr fw f2) q2)
      · rw [rd_wr_if _ _ _ (by omega) a, if_neg (by omega)]
        exact old j a (by omega)
      · rw [rd_wr_if _ _ _ (by omega) (by omega)]
        by_cases e : j = k
        · rw [if_pos e, e, Int.toNat_natCast]
        · rw [if_neg e]
          exact new j (by omega) b
    by_cases e0 : (k : Int) = 0
    · have k0 : k = 0 := by omega
      rw [if_pos k0, Int.zero_mul, show w64 0 = 0 from rfl] at sa
      rw [sa] at nxt
      simp (disch := omega) only [↓G_mod, ↓al_157, ↓al_144 _, a5, ok]
      rw [if_pos e0]
      simp (disch := omega) only [↓as_157]
      exact nxt
    · have k0 : ¬ k = 0 := by omega
      have ok1 := old ((k : Int) - 1) (by omega) (by omega)
      rw [show ((k : Int) - 1).toNat = k - 1 by omega] at ok1
      rw [if_neg k0] at sa
      rw [sa] at nxt
      simp (disch := omega) only [↓G_mod, ↓al_157, ↓al_144 _, a5, ok]
      rw [if_neg e0, w32_id (x := (k : Int) - 1) (by omega) (by omega)]
      simp (disch := omega) only [↓al_157, ok1, ↓al_144 _, a5, w32_id, ↓as_157]
      exact nxt
theorem m_314_c (hi : Iv N s) (m o n : Int) (n1 : n ≤ 12) (P : Option Rs → Prop) (H : ∀ L z g2, RM g2 s → F157 g g2 → Lq g2 L → L = rowL (s 5) n.toNat oneL → z = pwF 16 n.toNat 1 → P (EI X (d + 1) 314 66 [some (.inr (.inr 143)), some (.inl m), some (.inl o), some (.inl n), some (.inr (.inl z)), none, some (.inl n), none, none] [] S0 (ov g2))) : ∀ (k : Nat) (i z : Int) (L : List Int) (g1 : Mem), i + k = n → 0 ≤ i → RM g1 s → F157 g g1 → Lq g1 L → rowL (s 5) k L = rowL (s 5) n.toNat oneL → pwF 16 k z = pwF 16 n.toNat 1 → P (EI X (d + 1) 314 66 [some (.inr (.inr 143)), some (.inl m), some (.inl o), some (.inl n), some (.inr (.inl z)), none, some (.inl i), none, none] [] S0 (ov g1)) := by
  intro k
  induction k with
  | zero =>
    intro i z L g1 hk i0 r f lq e1 e2
    have ei : i = n := by omega
    rw [ei]
    exact H L z g1 r f lq e1 e2
  | succ k ih =>
    intro i z L g1 hk i0 r f lq e1 e2
    rw [e_314_66, if_pos (show i < n by omega)]
    exact m_314_b hi m o n L lq.1 i z i0 (by omega) P 13 g1 (by omega) r (fun j a b => lq.2 j a (by omega)) (fun j a b => by omega) (fun g2 f2 q2 => ih (i + 1) (w64 (z * 16)) (stL (s 5) 0 L) g2 (by omega) (by omega) (RM_157 r f2) (F157_tr f f2) q2 e1 e2)
theorem m_314_d {L : List Int} {g1 : Mem} (lq : Lq g1 L) (b : Int) : ∀ (k : Nat) (j z : Int), j + k = 13 → 0 ≤ j → EI X (d + 1) 314 164 [some (.inr (.inr 143)), none, none, none, some (.inr (.inl b)), none, some (.inr (.inl z)), none, some (.inl j)] [] S0 (ov g1) = oC (MI X d 204 [.inr (.inr 143), .inr (.inl (smL (L.drop j.toNat) z)), .inr (.inl b)] S0 (ov g1)) fun r1 S1 m1 => if r1 = 0 ∨ r1 = 1 then some (r1, S1, m1) else none := by
  intro k
  induction k with
  | zero =>
    intro j z hk j0
    rw [e_314_164, if_neg (show ¬ j < 13 by omega), K_mod, List.drop_eq_nil_of_le (by rw [lq.1]; omega)]
    rfl
  | succ k ih =>
    intro j z hk j0
    have e := lq.2 j j0 (by omega)
    have hl : j.toNat < L.length := by rw [lq.1]; omega
    rw [e_314_164, if_pos (show j < 13 by omega)]
    simp (disch := omega) only [↓G_mod, ↓al_157, e]
    rw [w32_id (x := j + 1) (by omega) (by omega), ih (j + 1) _ (by omega) (by omega), List.drop_eq_getElem_cons hl, show (j + 1).toNat = j.toNat + 1 by omega]
    have e2 : L.getD j.toNat 0 = L[j.toNat] := by simp [List.getD, hl]
    rw [e2]
    rfl
end
