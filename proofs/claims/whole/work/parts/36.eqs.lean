/-! EQUATIONS of the methods (written by wip/tools/geneqfiles.py; the proofs are by computing) -/
set_option maxRecDepth 100000 in
set_option maxHeartbeats 4000000 in
theorem e_340 (X : Xs) (d : Nat) (v0 : Int) (S : Sh) (h : Mem) : MI X (d + 1) 340 [.inr (.inr v0)] S h = if v0 = -8 ∨ v0 = -9 then oK (aln X S (v0 + 2)) none fun x1 => if v0 = -8 ∨ v0 = -9 then (oC (MI X d 342 [.inr (.inr v0)] S h) fun r2 S2 m2 => some (am_shr x1 r2, S2, m2)) else none else none := (show MI X (d + 1) 340 [.inr (.inr v0)] S h = EI X (d + 1) 340 0 [some (.inr (.inr v0))] [] S h from rfl).trans ((EI_run X (d + 1) 340 8 0 _ [] S h).trans rfl)
set_option maxRecDepth 100000 in
set_option maxHeartbeats 4000000 in
theorem e_341 (X : Xs) (d : Nat) (v0 v1 : Int) (S : Sh) (h : Mem) : MI X (d + 1) 341 [.inr (.inr v0), .inl v1] S h = if v0 = -8 ∨ v0 = -9 then (oC (MI X d 343 [.inr (.inr v0)] S h) fun r1 S1 m1 => if r1 = 0 then if v0 = -8 ∨ v0 = -9 then none else none else if v0 = -8 ∨ v0 = -9 then oC (MI X d 345 [.inr (.inr (v0 + 2)), .inl v1] S1 m1) fun r2 S2 m2 => if 0 ≤ r2 ∧ r2 < 128 then some (r2, S2, m2) else none else none) else none := (show MI X (d + 1) 341 [.inr (.inr v0), .inl v1] S h = EI X (d + 1) 341 0 [some (.inr (.inr v0)), some (.inl v1)] [] S h from rfl).trans ((EI_run X (d + 1) 341 9 0 _ [] S h).trans rfl)
set_option maxRecDepth 100000 in
set_option maxHeartbeats 4000000 in
theorem e_342 (X : Xs) (d : Nat) (v0 : Int) (S : Sh) (h : Mem) : MI X d 342 [.inr (.inr v0)] S h = if 1 = 0 then if 0 ≤ 1 ∧ 1 < 128 then some (1, S, h) else none else if v0 = -8 ∨ v0 = -9 then if 0 ≤ 0 ∧ 0 < 128 then some (0, S, h) else none else none := (show MI X d 342 [.inr (.inr v0)] S h = EI X d 342 0 [some (.inr (.inr v0))] [] S h from rfl).trans ((EI_run X d 342 7 0 _ [] S h).trans rfl)
set_option maxRecDepth 100000 in
set_option maxHeartbeats 4000000 in
theorem e_343 (X : Xs) (d : Nat) (v0 : Int) (S : Sh) (h : Mem) : MI X d 343 [.inr (.inr v0)] S h = if 1 = 0 then some (0, S, h) else if v0 = -8 ∨ v0 = -9 then if 0 = 0 then some (1, S, h) else some (0, S, h) else none := (show MI X d 343 [.inr (.inr v0)] S h = EI X d 343 0 [some (.inr (.inr v0))] [] S h from rfl).trans ((EI_run X d 343 9 0 _ [] S h).trans rfl)
set_option maxRecDepth 100000 in
set_option maxHeartbeats 4000000 in
theorem e_344 (X : Xs) (d : Nat) (v0 v1 : Int) (S : Sh) (h : Mem) : MI X (d + 1) 344 [.inl v0, .inl v1] S h = oC (MI X d 346 [.inl v0, .inl v1, .inr (.inr (-10))] S h) fun r1 S1 m1 => some (0, S1, m1) := (show MI X (d + 1) 344 [.inl v0, .inl v1] S h = EI X (d + 1) 344 0 [some (.inl v0), some (.inl v1)] [] S h from rfl).trans ((EI_run X (d + 1) 344 7 0 _ [] S h).trans rfl)
set_option maxRecDepth 100000 in
set_option maxHeartbeats 4000000 in
theorem e_345 (X : Xs) (d : Nat) (v0 v1 : Int) (S : Sh) (h : Mem) : MI X (d + 1) 345 [.inr (.inr v0), .inl v1] S h = oK (aln X S v0) none fun x1 => oC (MI X d 344 [.inl v1, .inl x1] S h) fun r2 S2 m2 => oK (aldB S2 m2 v0 v1) none fun x3 => if 0 ≤ (am_i2c (am_and x3 255)) ∧ (am_i2c (am_and x3 255)) < 128 then some (am_i2c (am_and x3 255), S2, m2) else none := (show MI X (d + 1) 345 [.inr (.inr v0), .inl v1] S h = EI X (d + 1) 345 0 [some (.inr (.inr v0)), some (.inl v1)] [] S h from rfl).trans ((EI_run X (d + 1) 345 12 0 _ [] S h).trans rfl)
set_option maxRecDepth 100000 in
set_option maxHeartbeats 4000000 in
theorem e_346 (X : Xs) (d : Nat) (v0 v1 v2 : Int) (S : Sh) (h : Mem) : MI X (d + 1) 346 [.inl v0, .inl v1, .inr (.inr v2)] S h = if v0 < 0 then none else if v0 < v1 then some (v0, S, h) else none := (show MI X (d + 1) 346 [.inl v0, .inl v1, .inr (.inr v2)] S h = EI X (d + 1) 346 0 [some (.inl v0), some (.inl v1), some (.inr (.inr v2))] [] S h from rfl).trans ((EI_run X (d + 1) 346 10 0 _ [] S h).trans rfl)
