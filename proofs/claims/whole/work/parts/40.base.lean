/-! THE HEAP behind the two constructors (written by wip/tools/genbase.py): shapes, references, rows of reading and writing -/
def S0 : Sh := [(99, 0), (10, 20), (7, 3), (25, 4), (21, 60), (21, 60), (21, 60), (21, 60), (20, 4), (20, 4), (22, 900), (6, 14), (22, 901), (23, 901), (21, 901), (21, 26), (2, 3), (9, 5), (20, 3), (1, 20), (20, 4), (20, 8), (20, 8), (20, 8), (20, 8), (20, 6), (20, 6), (20, 6), (20, 6), (20, 36), (21, 8), (21, 6), (8, 9), (20, 30), (20, 30), (20, 30), (20, 30), (20, 30), (20, 30), (20, 30), (1, 20), (20, 4), (20, 8), (20, 8), (20, 8), (20, 8), (20, 6), (20, 6), (20, 6), (20, 6), (20, 36), (21, 8), (21, 6), (8, 9), (20, 30), (20, 30), (20, 30), (20, 30), (20, 30), (20, 30), (20, 30), (24, 3), (1, 20), (20, 4), (20, 8), (20, 8), (20, 8), (20, 8), (20, 6), (20, 6), (20, 6), (20, 6), (20, 36), (21, 8), (21, 6), (8, 9), (20, 30), (20, 30), (20, 30), (20, 30), (20, 30), (20, 30), (20, 30), (1, 20), (20, 4), (20, 8), (20, 8), (20, 8), (20, 8), (20, 6), (20, 6), (20, 6), (20, 6), (20, 36), (21, 8), (21, 6), (8, 9), (20, 30), (20, 30), (20, 30), (20, 30), (20, 30), (20, 30), (20, 30), (1, 20), (20, 4), (20, 8), (20, 8), (20, 8), (20, 8), (20, 6), (20, 6), (20, 6), (20, 6), (20, 36), (21, 8), (21, 6), (8, 9), (20, 30), (20, 30), (20, 30), (20, 30), (20, 30), (20, 30), (20, 30), (0, 13), (20, 2), (20, 2), (20, 2), (20, 2), (20, 2), (20, 2), (20, 2), (20, 2), (3, 7), (20, 6), (20, 6), (20, 48), (5, 3), (20, 6), (20, 6), (4, 9), (4, 9), (11, 40), (20, 3768), (21, 84), (20, 4), (20, 4), (21, 240), (22, 900), (22, 900), (20, 3), (20, 9), (20, 9), (20, 9), (20, 3), (20, 1792), (21, 13), (20, 2), (20, 64), (20, 80), (20, 5), (20, 5)]
def rd (h : Mem) (a i : Int) : Int := h a.toNat i.toNat
def wr (h : Mem) (a i x : Int) : Mem := up h a.toNat i.toNat x
def isD (b : Int) : Prop := b = 19 ∨ b = 40 ∨ b = 62 ∨ b = 83 ∨ b = 104
def isL (b : Int) : Prop := b = 141 ∨ b = 142
def rT_1 (j : Nat) : Option Int := (bif Nat.blt j 6 then (bif Nat.blt j 3 then (bif Nat.blt j 1 then (bif Nat.beq j 0 then some 2 else none) else (bif Nat.blt j 2 then (bif Nat.beq j 1 then some 10 else none) else (bif Nat.beq j 2 then some 11 else none))) else (bif Nat.blt j 4 then (bif Nat.beq j 3 then some 16 else none) else (bif Nat.blt j 5 then (bif Nat.beq j 4 then some 17 else none) else (bif Nat.beq j 5 then some 19 else none)))) else (bif Nat.blt j 9 then (bif Nat.blt j 7 then (bif Nat.beq j 6 then some 40 else none) else (bif Nat.blt j 8 then (bif Nat.beq j 7 then some 61 else none) else (bif Nat.beq j 8 then some 125 else none))) else (bif Nat.blt j 11 then (bif Nat.blt j 10 then (bif Nat.beq j 9 then some 134 else none) else (bif Nat.beq j 10 then some 138 else none)) else (bif Nat.blt j 12 then (bif Nat.beq j 11 then some 141 else none) else (bif Nat.beq j 12 then some 142 else none)))))
def rT_2 (j : Nat) : Option Int := (bif Nat.blt j 1 then (bif Nat.beq j 0 then some 3 else none) else (bif Nat.blt j 2 then (bif Nat.beq j 1 then some 8 else none) else (bif Nat.beq j 2 then some 9 else none)))
def rT_3 (j : Nat) : Option Int := (bif Nat.blt j 2 then (bif Nat.blt j 1 then (bif Nat.beq j 0 then some 4 else none) else (bif Nat.beq j 1 then some 5 else none)) else (bif Nat.blt j 3 then (bif Nat.beq j 2 then some 6 else none) else (bif Nat.beq j 3 then some 7 else none)))
def rT_11 (j : Nat) : Option Int := (bif Nat.blt j 2 then (bif Nat.blt j 1 then (bif Nat.beq j 0 then some 10 else none) else (bif Nat.beq j 1 then some 15 else none)) else (bif Nat.blt j 3 then (bif Nat.beq j 2 then some 12 else none) else (bif Nat.blt j 4 then (bif Nat.beq j 3 then some 13 else none) else (bif Nat.beq j 4 then some 14 else none))))
def rT_16 (j : Nat) : Option Int := (bif Nat.beq j 0 then some 11 else none)
def rT_17 (j : Nat) : Option Int := (bif Nat.blt j 1 then (bif Nat.beq j 0 then some 11 else none) else (bif Nat.beq j 1 then some 18 else none))
def rT_19 (j : Nat) : Option Int := (bif Nat.blt j 8 then (bif Nat.blt j 5 then (bif Nat.blt j 3 then (bif Nat.beq j 2 then some 20 else none) else (bif Nat.blt j 4 then (bif Nat.beq j 3 then some 21 else none) else (bif Nat.beq j 4 then some 22 else none))) else (bif Nat.blt j 6 then (bif Nat.beq j 5 then some 23 else none) else (bif Nat.blt j 7 then (bif Nat.beq j 6 then some 24 else none) else (bif Nat.beq j 7 then some 25 else none)))) else (bif Nat.blt j 11 then (bif Nat.blt j 9 then (bif Nat.beq j 8 then some 26 else none) else (bif Nat.blt j 10 then (bif Nat.beq j 9 then some 27 else none) else (bif Nat.beq j 10 then some 28 else none))) else (bif Nat.blt j 13 then (bif Nat.blt j 12 then (bif Nat.beq j 11 then some 29 else none) else (bif Nat.beq j 12 then some 30 else none)) else (bif Nat.blt j 19 then (bif Nat.beq j 13 then some 31 else none) else (bif Nat.beq j 19 then some 32 else none)))))
def rT_32 (j : Nat) : Option Int := (bif Nat.blt j 5 then (bif Nat.blt j 3 then (bif Nat.beq j 2 then some 33 else none) else (bif Nat.blt j 4 then (bif Nat.beq j 3 then some 34 else none) else (bif Nat.beq j 4 then some 35 else none))) else (bif Nat.blt j 7 then (bif Nat.blt j 6 then (bif Nat.beq j 5 then some 36 else none) else (bif Nat.beq j 6 then some 37 else none)) else (bif Nat.blt j 8 then (bif Nat.beq j 7 then some 38 else none) else (bif Nat.beq j 8 then some 39 else none))))
def rT_40 (j : Nat) : Option Int := (bif Nat.blt j 8 then (bif Nat.blt j 5 then (bif Nat.blt j 3 then (bif Nat.beq j 2 then some 41 else none) else (bif Nat.blt j 4 then (bif Nat.beq j 3 then some 42 else none) else (bif Nat.beq j 4 then some 43 else none))) else (bif Nat.blt j 6 then (bif Nat.beq j 5 then some 44 else none) else (bif Nat.blt j 7 then (bif Nat.beq j 6 then some 45 else none) else (bif Nat.beq j 7 then some 46 else none)))) else (bif Nat.blt j 11 then (bif Nat.blt j 9 then (bif Nat.beq j 8 then some 47 else none) else (bif Nat.blt j 10 then (bif Nat.beq j 9 then some 48 else none) else (bif Nat.beq j 10 then some 49 else none))) else (bif Nat.blt j 13 then (bif Nat.blt j 12 then (bif Nat.beq j 11 then some 50 else none) else (bif Nat.beq j 12 then some 51 else none)) else (bif Nat.blt j 19 then (bif Nat.beq j 13 then some 52 else none) else (bif Nat.beq j 19 then some 53 else none)))))
def rT_53 (j : Nat) : Option Int := (bif Nat.blt j 5 then (bif Nat.blt j 3 then (bif Nat.beq j 2 then some 54 else none) else (bif Nat.blt j 4 then (bif Nat.beq j 3 then some 55 else none) else (bif Nat.beq j 4 then some 56 else none))) else (bif Nat.blt j 7 then (bif Nat.blt j 6 then (bif Nat.beq j 5 then some 57 else none) else (bif Nat.beq j 6 then some 58 else none)) else (bif Nat.blt j 8 then (bif Nat.beq j 7 then some 59 else none) else (bif Nat.beq j 8 then some 60 else none))))
def rT_61 (j : Nat) : Option Int := (bif Nat.blt j 1 then (bif Nat.beq j 0 then some 62 else none) else (bif Nat.blt j 2 then (bif Nat.beq j 1 then some 83 else none) else (bif Nat.beq j 2 then some 104 else none)))
def rT_62 (j : Nat) : Option Int := (bif Nat.blt j 8 then (bif Nat.blt j 5 then (bif Nat.blt j 3 then (bif Nat.beq j 2 then some 63 else none) else (bif Nat.blt j 4 then (bif Nat.beq j 3 then some 64 else none) else (bif Nat.beq j 4 then some 65 else none))) else (bif Nat.blt j 6 then (bif Nat.beq j 5 then some 66 else none) else (bif Nat.blt j 7 then (bif Nat.beq j 6 then some 67 else none) else (bif Nat.beq j 7 then some 68 else none)))) else (bif Nat.blt j 11 then (bif Nat.blt j 9 then (bif Nat.beq j 8 then some 69 else none) else (bif Nat.blt j 10 then (bif Nat.beq j 9 then some 70 else none) else (bif Nat.beq j 10 then some 71 else none))) else (bif Nat.blt j 13 then (bif Nat.blt j 12 then (bif Nat.beq j 11 then some 72 else none) else (bif Nat.beq j 12 then some 73 else none)) else (bif Nat.blt j 19 then (bif Nat.beq j 13 then some 74 else none) else (bif Nat.beq j 19 then some 75 else none)))))
def rT_75 (j : Nat) : Option Int := (bif Nat.blt j 5 then (bif Nat.blt j 3 then (bif Nat.beq j 2 then some 76 else none) else (bif Nat.blt j 4 then (bif Nat.beq j 3 then some 77 else none) else (bif Nat.beq j 4 then some 78 else none))) else (bif Nat.blt j 7 then (bif Nat.blt j 6 then (bif Nat.beq j 5 then some 79 else none) else (bif Nat.beq j 6 then some 80 else none)) else (bif Nat.blt j 8 then (bif Nat.beq j 7 then some 81 else none) else (bif Nat.beq j 8 then some 82 else none))))
def rT_83 (j : Nat) : Option Int := (bif Nat.blt j 8 then (bif Nat.blt j 5 then (bif Nat.blt j 3 then (bif Nat.beq j 2 then some 84 else none) else (bif Nat.blt j 4 then (bif Nat.beq j 3 then some 85 else none) else (bif Nat.beq j 4 then some 86 else none))) else (bif Nat.blt j 6 then (bif Nat.beq j 5 then some 87 else none) else (bif Nat.blt j 7 then (bif Nat.beq j 6 then some 88 else none) else (bif Nat.beq j 7 then some 89 else none)))) else (bif Nat.blt j 11 then (bif Nat.blt j 9 then (bif Nat.beq j 8 then some 90 else none) else (bif Nat.blt j 10 then (bif Nat.beq j 9 then some 91 else none) else (bif Nat.beq j 10 then some 92 else none))) else (bif Nat.blt j 13 then (bif Nat.blt j 12 then (bif Nat.beq j 11 then some 93 else none) else (bif Nat.beq j 12 then some 94 else none)) else (bif Nat.blt j 19 then (bif Nat.beq j 13 then some 95 else none) else (bif Nat.beq j 19 then some 96 else none)))))
def rT_96 (j : Nat) : Option Int := (bif Nat.blt j 5 then (bif Nat.blt j 3 then (bif Nat.beq j 2 then some 97 else none) else (bif Nat.blt j 4 then (bif Nat.beq j 3 then some 98 else none) else (bif Nat.beq j 4 then some 99 else none))) else (bif Nat.blt j 7 then (bif Nat.blt j 6 then (bif Nat.beq j 5 then some 100 else none) else (bif Nat.beq j 6 then some 101 else none)) else (bif Nat.blt j 8 then (bif Nat.beq j 7 then some 102 else none) else (bif Nat.beq j 8 then some 103 else none))))
def rT_104 (j : Nat) : Option Int := (bif Nat.blt j 8 then (bif Nat.blt j 5 then (bif Nat.blt j 3 then (bif Nat.beq j 2 then some 105 else none) else (bif Nat.blt j 4 then (bif Nat.beq j 3 then some 106 else none) else (bif Nat.beq j 4 then some 107 else none))) else (bif Nat.blt j 6 then (bif Nat.beq j 5 then some 108 else none) else (bif Nat.blt j 7 then (bif Nat.beq j 6 then some 109 else none) else (bif Nat.beq j 7 then some 110 else none)))) else (bif Nat.blt j 11 then (bif Nat.blt j 9 then (bif Nat.beq j 8 then some 111 else none) else (bif Nat.blt j 10 then (bif Nat.beq j 9 then some 112 else none) else (bif Nat.beq j 10 then some 113 else none))) else (bif Nat.blt j 13 then (bif Nat.blt j 12 then (bif Nat.beq j 11 then some 114 else none) else (bif Nat.beq j 12 then some 115 else none)) else (bif Nat.blt j 19 then (bif Nat.beq j 13 then some 116 else none) else (bif Nat.beq j 19 then some 117 else none)))))
def rT_117 (j : Nat) : Option Int := (bif Nat.blt j 5 then (bif Nat.blt j 3 then (bif Nat.beq j 2 then some 118 else none) else (bif Nat.blt j 4 then (bif Nat.beq j 3 then some 119 else none) else (bif Nat.beq j 4 then some 120 else none))) else (bif Nat.blt j 7 then (bif Nat.blt j 6 then (bif Nat.beq j 5 then some 121 else none) else (bif Nat.beq j 6 then some 122 else none)) else (bif Nat.blt j 8 then (bif Nat.beq j 7 then some 123 else none) else (bif Nat.beq j 8 then some 124 else none))))
def rT_125 (j : Nat) : Option Int := (bif Nat.blt j 4 then (bif Nat.blt j 2 then (bif Nat.blt j 1 then (bif Nat.beq j 0 then some 126 else none) else (bif Nat.beq j 1 then some 127 else none)) else (bif Nat.blt j 3 then (bif Nat.beq j 2 then some 128 else none) else (bif Nat.beq j 3 then some 129 else none))) else (bif Nat.blt j 6 then (bif Nat.blt j 5 then (bif Nat.beq j 4 then some 130 else none) else (bif Nat.beq j 5 then some 131 else none)) else (bif Nat.blt j 7 then (bif Nat.beq j 6 then some 132 else none) else (bif Nat.beq j 7 then some 133 else none))))
def rT_134 (j : Nat) : Option Int := (bif Nat.blt j 2 then (bif Nat.beq j 0 then some 135 else none) else (bif Nat.blt j 3 then (bif Nat.beq j 2 then some 136 else none) else (bif Nat.beq j 3 then some 137 else none)))
def rT_138 (j : Nat) : Option Int := (bif Nat.blt j 2 then (bif Nat.beq j 0 then some 139 else none) else (bif Nat.beq j 2 then some 140 else none))
def rT_141 (j : Nat) : Option Int := (bif Nat.beq j 0 then some 125 else none)
def rT_142 (j : Nat) : Option Int := (bif Nat.beq j 0 then some 125 else none)
def rT_143 (j : Nat) : Option Int := (bif Nat.blt j 25 then (bif Nat.blt j 7 then (bif Nat.blt j 5 then (bif Nat.blt j 1 then (bif Nat.beq j 0 then some 144 else none) else (bif Nat.beq j 1 then some 145 else none)) else (bif Nat.blt j 6 then (bif Nat.beq j 5 then some 146 else none) else (bif Nat.beq j 6 then some 147 else none))) else (bif Nat.blt j 9 then (bif Nat.blt j 8 then (bif Nat.beq j 7 then some 148 else none) else (bif Nat.beq j 8 then some 149 else none)) else (bif Nat.blt j 21 then (bif Nat.beq j 9 then some 150 else none) else (bif Nat.blt j 24 then (bif Nat.beq j 21 then some 151 else none) else (bif Nat.beq j 24 then some 152 else none))))) else (bif Nat.blt j 30 then (bif Nat.blt j 27 then (bif Nat.blt j 26 then (bif Nat.beq j 25 then some 153 else none) else (bif Nat.beq j 26 then some 154 else none)) else (bif Nat.blt j 28 then (bif Nat.beq j 27 then some 155 else none) else (bif Nat.blt j 29 then (bif Nat.beq j 28 then some 156 else none) else (bif Nat.beq j 29 then some 157 else none)))) else (bif Nat.blt j 35 then (bif Nat.blt j 32 then (bif Nat.beq j 30 then some 158 else none) else (bif Nat.beq j 32 then some 159 else none)) else (bif Nat.blt j 36 then (bif Nat.beq j 35 then some 160 else none) else (bif Nat.blt j 37 then (bif Nat.beq j 36 then some 161 else none) else (bif Nat.beq j 37 then some 162 else none))))))
def rT (a j : Nat) : Option Int := (bif Nat.blt a 62 then (bif Nat.blt a 17 then (bif Nat.blt a 3 then (bif Nat.blt a 2 then (bif Nat.beq a 1 then rT_1 j else none) else (bif Nat.beq a 2 then rT_2 j else none)) else (bif Nat.blt a 11 then (bif Nat.beq a 3 then rT_3 j else none) else (bif Nat.blt a 16 then (bif Nat.beq a 11 then rT_11 j else none) else (bif Nat.beq a 16 then rT_16 j else none)))) else (bif Nat.blt a 40 then (bif Nat.blt a 19 then (bif Nat.beq a 17 then rT_17 j else none) else (bif Nat.blt a 32 then (bif Nat.beq a 19 then rT_19 j else none) else (bif Nat.beq a 32 then rT_32 j else none))) else (bif Nat.blt a 53 then (bif Nat.beq a 40 then rT_40 j else none) else (bif Nat.blt a 61 then (bif Nat.beq a 53 then rT_53 j else none) else (bif Nat.beq a 61 then rT_61 j else none))))) else (bif Nat.blt a 125 then (bif Nat.blt a 96 then (bif Nat.blt a 75 then (bif Nat.beq a 62 then rT_62 j else none) else (bif Nat.blt a 83 then (bif Nat.beq a 75 then rT_75 j else none) else (bif Nat.beq a 83 then rT_83 j else none))) else (bif Nat.blt a 104 then (bif Nat.beq a 96 then rT_96 j else none) else (bif Nat.blt a 117 then (bif Nat.beq a 104 then rT_104 j else none) else (bif Nat.beq a 117 then rT_117 j else none)))) else (bif Nat.blt a 141 then (bif Nat.blt a 134 then (bif Nat.beq a 125 then rT_125 j else none) else (bif Nat.blt a 138 then (bif Nat.beq a 134 then rT_134 j else none) else (bif Nat.beq a 138 then rT_138 j else none))) else (bif Nat.blt a 142 then (bif Nat.beq a 141 then rT_141 j else none) else (bif Nat.blt a 143 then (bif Nat.beq a 142 then rT_142 j else none) else (bif Nat.beq a 143 then rT_143 j else none))))))
/-- the references are where they are -/
def ov (g : Mem) : Mem := fun a j => match rT a j with
  | some r => r
  | none => g a j
theorem up_ov {a j : Nat} (g : Mem) (x : Int) (hn : rT a j = none) : up (ov g) a j x = ov (up g a j x) := by
  funext c k
  unfold up ov
  by_cases e : c = a ∧ k = j
  · obtain ⟨rfl, rfl⟩ := e
    rw [hn]
  · rw [if_neg e]
    cases rT c k with
    | none => exact (if_neg e).symm
    | some _ => rfl
theorem ov_ov (g : Mem) : ov (ov g) = ov g := by
  funext a j
  unfold ov
  cases rT a j <;> rfl
theorem oK_some {α β : Type} (v : α) (x : β) (f : α → β) : oK (some v) x f = f v := rfl
theorem oC_some (v : Int) (S : Sh) (h : Mem) (f : Int → Sh → Mem → Option Rs) : oC (some (v, S, h)) f = f v S h := rfl
theorem oC_of {v : Int} {S : Sh} {h : Mem} {o : Option Rs} (e : o = some (v, S, h)) (f : Int → Sh → Mem → Option Rs) : oC o f = f v S h := by rw [e]; rfl
theorem aldI_pos (X : Xs) (h : Mem) {a i : Int} {n : Nat} (hn : ¬ a < 0) (hk : kd S0 a = 20) (hl : ln S0 a = n) (h1 : 0 ≤ i) (h2 : i < (n : Int)) : aldI X S0 h a i = some (h a.toNat i.toNat) := by
  unfold aldI ald
  rw [if_neg hn, if_pos ⟨hk, h1, by rw [hl]; exact h2⟩]
theorem aldB_pos (h : Mem) {a i : Int} {n : Nat} (hn : ¬ a < 0) (hk : kd S0 a = 22) (hl : ln S0 a = n) (h1 : 0 ≤ i) (h2 : i < (n : Int)) : aldB S0 h a i = some (h a.toNat i.toNat) := by
  unfold aldB ald
  rw [if_neg hn, if_pos ⟨hk, h1, by rw [hl]; exact h2⟩]
theorem ald_pos (h : Mem) {a i : Int} {n K : Nat} (hk : kd S0 a = K) (hl : ln S0 a = n) (h1 : 0 ≤ i) (h2 : i < (n : Int)) : ald S0 h K a i = some (h a.toNat i.toNat) := if_pos ⟨hk, h1, by rw [hl]; exact h2⟩
theorem ast_pos (g : Mem) {a i : Int} {n K : Nat} (x : Int) (hr : ∀ j, rT a.toNat j = none) (hk : kd S0 a = K) (hl : ln S0 a = n) (h1 : 0 ≤ i) (h2 : i < (n : Int)) : ast S0 (ov g) K a i x = some (ov (wr g a i x)) := by
  unfold ast
  rw [if_pos ⟨hk, h1, by rw [hl]; exact h2⟩, up_ov _ _ (hr _)]
  rfl
theorem putf_pos (g : Mem) {a : Int} {j ci : Nat} {i : Int} (x : Int) (hi : i.toNat = j) (hr : rT a.toNat j = none) (hk : kd S0 a = ci) : putf S0 (ov g) ci a j x = some (ov (wr g a i x)) := by
  unfold putf
  rw [if_pos hk, up_ov _ _ hr]
  unfold wr
  rw [hi]
theorem getf_pos (g : Mem) {a : Int} {j ci : Nat} (hk : kd S0 a = ci) : getf S0 (ov g) ci a j = some (ov g a.toNat j) := if_pos hk
theorem K_top {A : Type} (p q : A) : (if kd S0 1 = 10 then p else q) = p := if_pos rfl
theorem G_top (g : Mem) {A : Type} (n : A) (f : Int → A) : oK (getf S0 (ov g) 10 1 0) n f = f 2
  ∧ oK (getf S0 (ov g) 10 1 1) n f = f 10
  ∧ oK (getf S0 (ov g) 10 1 2) n f = f 11
  ∧ oK (getf S0 (ov g) 10 1 3) n f = f 16
  ∧ oK (getf S0 (ov g) 10 1 4) n f = f 17
  ∧ oK (getf S0 (ov g) 10 1 5) n f = f 19
  ∧ oK (getf S0 (ov g) 10 1 6) n f = f 40
  ∧ oK (getf S0 (ov g) 10 1 7) n f = f 61
  ∧ oK (getf S0 (ov g) 10 1 8) n f = f 125
  ∧ oK (getf S0 (ov g) 10 1 9) n f = f 134
  ∧ oK (getf S0 (ov g) 10 1 10) n f = f 138
  ∧ oK (getf S0 (ov g) 10 1 11) n f = f 141
  ∧ oK (getf S0 (ov g) 10 1 12) n f = f 142
  ∧ oK (getf S0 (ov g) 10 1 13) n f = f (rd g 1 13)
  ∧ oK (getf S0 (ov g) 10 1 14) n f = f (rd g 1 14)
  ∧ oK (getf S0 (ov g) 10 1 15) n f = f (rd g 1 15)
  ∧ oK (getf S0 (ov g) 10 1 16) n f = f (rd g 1 16)
  ∧ oK (getf S0 (ov g) 10 1 17) n f = f (rd g 1 17)
  ∧ oK (getf S0 (ov g) 10 1 18) n f = f (rd g 1 18)
  ∧ oK (getf S0 (ov g) 10 1 19) n f = f (rd g 1 19) := ⟨rfl, rfl, rfl, rfl, rfl, rfl, rfl, rfl, rfl, rfl, rfl, rfl, rfl, rfl, rfl, rfl, rfl, rfl, rfl, rfl⟩
theorem P_top (g : Mem) (x : Int) {A : Type} (n : A) (f : Mem → A) : oK (putf S0 (ov g) 10 1 13 x) n f = f (ov (wr g 1 13 x))
  ∧ oK (putf S0 (ov g) 10 1 14 x) n f = f (ov (wr g 1 14 x))
  ∧ oK (putf S0 (ov g) 10 1 15 x) n f = f (ov (wr g 1 15 x))
  ∧ oK (putf S0 (ov g) 10 1 16 x) n f = f (ov (wr g 1 16 x))
  ∧ oK (putf S0 (ov g) 10 1 17 x) n f = f (ov (wr g 1 17 x))
  ∧ oK (putf S0 (ov g) 10 1 18 x) n f = f (ov (wr g 1 18 x))
  ∧ oK (putf S0 (ov g) 10 1 19 x) n f = f (ov (wr g 1 19 x)) := ⟨((congrArg (fun o => oK o n f) (putf_pos (a := 1) (j := 13) (ci := 10) (i := 13) g x rfl rfl rfl)).trans rfl), ((congrArg (fun o => oK o n f) (putf_pos (a := 1) (j := 14) (ci := 10) (i := 14) g x rfl rfl rfl)).trans rfl), ((congrArg (fun o => oK o n f) (putf_pos (a := 1) (j := 15) (ci := 10) (i := 15) g x rfl rfl rfl)).trans rfl), ((congrArg (fun o => oK o n f) (putf_pos (a := 1) (j := 16) (ci := 10) (i := 16) g x rfl rfl rfl)).trans rfl), ((congrArg (fun o => oK o n f) (putf_pos (a := 1) (j := 17) (ci := 10) (i := 17) g x rfl rfl rfl)).trans rfl), ((congrArg (fun o => oK o n f) (putf_pos (a := 1) (j := 18) (ci := 10) (i := 18) g x rfl rfl rfl)).trans rfl), ((congrArg (fun o => oK o n f) (putf_pos (a := 1) (j := 19) (ci := 10) (i := 19) g x rfl rfl rfl)).trans rfl)⟩
theorem K_trs {A : Type} (p q : A) : (if kd S0 2 = 7 then p else q) = p := if_pos rfl
theorem G_trs (g : Mem) {A : Type} (n : A) (f : Int → A) : oK (getf S0 (ov g) 7 2 0) n f = f 3
  ∧ oK (getf S0 (ov g) 7 2 1) n f = f 8
  ∧ oK (getf S0 (ov g) 7 2 2) n f = f 9 := ⟨rfl, rfl, rfl⟩
theorem K_tok {A : Type} (p q : A) : (if kd S0 11 = 6 then p else q) = p := if_pos rfl
theorem G_tok (g : Mem) {A : Type} (n : A) (f : Int → A) : oK (getf S0 (ov g) 6 11 0) n f = f 10
  ∧ oK (getf S0 (ov g) 6 11 1) n f = f 15
  ∧ oK (getf S0 (ov g) 6 11 2) n f = f 12
  ∧ oK (getf S0 (ov g) 6 11 3) n f = f 13
  ∧ oK (getf S0 (ov g) 6 11 4) n f = f 14
  ∧ oK (getf S0 (ov g) 6 11 5) n f = f (rd g 11 5)
  ∧ oK (getf S0 (ov g) 6 11 6) n f = f (rd g 11 6)
  ∧ oK (getf S0 (ov g) 6 11 7) n f = f (rd g 11 7)
  ∧ oK (getf S0 (ov g) 6 11 8) n f = f (rd g 11 8)
  ∧ oK (getf S0 (ov g) 6 11 9) n f = f (rd g 11 9)
  ∧ oK (getf S0 (ov g) 6 11 10) n f = f (rd g 11 10)
  ∧ oK (getf S0 (ov g) 6 11 11) n f = f (rd g 11 11)
  ∧ oK (getf S0 (ov g) 6 11 12) n f = f (rd g 11 12)
  ∧ oK (getf S0 (ov g) 6 11 13) n f = f (rd g 11 13) := ⟨rfl, rfl, rfl, rfl, rfl, rfl, rfl, rfl, rfl, rfl, rfl, rfl, rfl, rfl⟩
theorem P_tok (g : Mem) (x : Int) {A : Type} (n : A) (f : Mem → A) : oK (putf S0 (ov g) 6 11 5 x) n f = f (ov (wr g 11 5 x))
  ∧ oK (putf S0 (ov g) 6 11 6 x) n f = f (ov (wr g 11 6 x))
  ∧ oK (putf S0 (ov g) 6 11 7 x) n f = f (ov (wr g 11 7 x))
  ∧ oK (putf S0 (ov g) 6 11 8 x) n f = f (ov (wr g 11 8 x))
  ∧ oK (putf S0 (ov g) 6 11 9 x) n f = f (ov (wr g 11 9 x))
  ∧ oK (putf S0 (ov g) 6 11 10 x) n f = f (ov (wr g 11 10 x))
  ∧ oK (putf S0 (ov g) 6 11 11 x) n f = f (ov (wr g 11 11 x))
  ∧ oK (putf S0 (ov g) 6 11 12 x) n f = f (ov (wr g 11 12 x))
  ∧ oK (putf S0 (ov g) 6 11 13 x) n f = f (ov (wr g 11 13 x)) := ⟨((congrArg (fun o => oK o n f) (putf_pos (a := 11) (j := 5) (ci := 6) (i := 5) g x rfl rfl rfl)).trans rfl), ((congrArg (fun o => oK o n f) (putf_pos (a := 11) (j := 6) (ci := 6) (i := 6) g x rfl rfl rfl)).trans rfl), ((congrArg (fun o => oK o n f) (putf_pos (a := 11) (j := 7) (ci := 6) (i := 7) g x rfl rfl rfl)).trans rfl), ((congrArg (fun o => oK o n f) (putf_pos (a := 11) (j := 8) (ci := 6) (i := 8) g x rfl rfl rfl)).trans rfl), ((congrArg (fun o => oK o n f) (putf_pos (a := 11) (j := 9) (ci := 6) (i := 9) g x rfl rfl rfl)).trans rfl), ((congrArg (fun o => oK o n f) (putf_pos (a := 11) (j := 10) (ci := 6) (i := 10) g x rfl rfl rfl)).trans rfl), ((congrArg (fun o => oK o n f) (putf_pos (a := 11) (j := 11) (ci := 6) (i := 11) g x rfl rfl rfl)).trans rfl), ((congrArg (fun o => oK o n f) (putf_pos (a := 11) (j := 12) (ci := 6) (i := 12) g x rfl rfl rfl)).trans rfl), ((congrArg (fun o => oK o n f) (putf_pos (a := 11) (j := 13) (ci := 6) (i := 13) g x rfl rfl rfl)).trans rfl)⟩
theorem K_dre {A : Type} (p q : A) : (if kd S0 16 = 2 then p else q) = p := if_pos rfl
theorem G_dre (g : Mem) {A : Type} (n : A) (f : Int → A) : oK (getf S0 (ov g) 2 16 0) n f = f 11
  ∧ oK (getf S0 (ov g) 2 16 1) n f = f (rd g 16 1)
  ∧ oK (getf S0 (ov g) 2 16 2) n f = f (rd g 16 2) := ⟨rfl, rfl, rfl⟩
theorem P_dre (g : Mem) (x : Int) {A : Type} (n : A) (f : Mem → A) : oK (putf S0 (ov g) 2 16 1 x) n f = f (ov (wr g 16 1 x))
  ∧ oK (putf S0 (ov g) 2 16 2 x) n f = f (ov (wr g 16 2 x)) := ⟨((congrArg (fun o => oK o n f) (putf_pos (a := 16) (j := 1) (ci := 2) (i := 1) g x rfl rfl rfl)).trans rfl), ((congrArg (fun o => oK o n f) (putf_pos (a := 16) (j := 2) (ci := 2) (i := 2) g x rfl rfl rfl)).trans rfl)⟩
theorem K_yre {A : Type} (p q : A) : (if kd S0 17 = 9 then p else q) = p := if_pos rfl
theorem G_yre (g : Mem) {A : Type} (n : A) (f : Int → A) : oK (getf S0 (ov g) 9 17 0) n f = f 11
  ∧ oK (getf S0 (ov g) 9 17 1) n f = f 18
  ∧ oK (getf S0 (ov g) 9 17 2) n f = f (rd g 17 2)
  ∧ oK (getf S0 (ov g) 9 17 3) n f = f (rd g 17 3)
  ∧ oK (getf S0 (ov g) 9 17 4) n f = f (rd g 17 4) := ⟨rfl, rfl, rfl, rfl, rfl⟩
theorem P_yre (g : Mem) (x : Int) {A : Type} (n : A) (f : Mem → A) : oK (putf S0 (ov g) 9 17 2 x) n f = f (ov (wr g 17 2 x))
  ∧ oK (putf S0 (ov g) 9 17 3 x) n f = f (ov (wr g 17 3 x))
  ∧ oK (putf S0 (ov g) 9 17 4 x) n f = f (ov (wr g 17 4 x)) := ⟨((congrArg (fun o => oK o n f) (putf_pos (a := 17) (j := 2) (ci := 9) (i := 2) g x rfl rfl rfl)).trans rfl), ((congrArg (fun o => oK o n f) (putf_pos (a := 17) (j := 3) (ci := 9) (i := 3) g x rfl rfl rfl)).trans rfl), ((congrArg (fun o => oK o n f) (putf_pos (a := 17) (j := 4) (ci := 9) (i := 4) g x rfl rfl rfl)).trans rfl)⟩
theorem K_bou {A : Type} (p q : A) : (if kd S0 125 = 0 then p else q) = p := if_pos rfl
theorem G_bou (g : Mem) {A : Type} (n : A) (f : Int → A) : oK (getf S0 (ov g) 0 125 0) n f = f 126
  ∧ oK (getf S0 (ov g) 0 125 1) n f = f 127
  ∧ oK (getf S0 (ov g) 0 125 2) n f = f 128
  ∧ oK (getf S0 (ov g) 0 125 3) n f = f 129
  ∧ oK (getf S0 (ov g) 0 125 4) n f = f 130
  ∧ oK (getf S0 (ov g) 0 125 5) n f = f 131
  ∧ oK (getf S0 (ov g) 0 125 6) n f = f 132
  ∧ oK (getf S0 (ov g) 0 125 7) n f = f 133
  ∧ oK (getf S0 (ov g) 0 125 8) n f = f (rd g 125 8)
  ∧ oK (getf S0 (ov g) 0 125 9) n f = f (rd g 125 9)
  ∧ oK (getf S0 (ov g) 0 125 10) n f = f (rd g 125 10)
  ∧ oK (getf S0 (ov g) 0 125 11) n f = f (rd g 125 11)
  ∧ oK (getf S0 (ov g) 0 125 12) n f = f (rd g 125 12) := ⟨rfl, rfl, rfl, rfl, rfl, rfl, rfl, rfl, rfl, rfl, rfl, rfl, rfl⟩
theorem P_bou (g : Mem) (x : Int) {A : Type} (n : A) (f : Mem → A) : oK (putf S0 (ov g) 0 125 8 x) n f = f (ov (wr g 125 8 x))
  ∧ oK (putf S0 (ov g) 0 125 9 x) n f = f (ov (wr g 125 9 x))
  ∧ oK (putf S0 (ov g) 0 125 10 x) n f = f (ov (wr g 125 10 x))
  ∧ oK (putf S0 (ov g) 0 125 11 x) n f = f (ov (wr g 125 11 x))
  ∧ oK (putf S0 (ov g) 0 125 12 x) n f = f (ov (wr g 125 12 x)) := ⟨((congrArg (fun o => oK o n f) (putf_pos (a := 125) (j := 8) (ci := 0) (i := 8) g x rfl rfl rfl)).trans rfl), ((congrArg (fun o => oK o n f) (putf_pos (a := 125) (j := 9) (ci := 0) (i := 9) g x rfl rfl rfl)).trans rfl), ((congrArg (fun o => oK o n f) (putf_pos (a := 125) (j := 10) (ci := 0) (i := 10) g x rfl rfl rfl)).trans rfl), ((congrArg (fun o => oK o n f) (putf_pos (a := 125) (j := 11) (ci := 0) (i := 11) g x rfl rfl rfl)).trans rfl), ((congrArg (fun o => oK o n f) (putf_pos (a := 125) (j := 12) (ci := 0) (i := 12) g x rfl rfl rfl)).trans rfl)⟩
theorem K_gif {A : Type} (p q : A) : (if kd S0 134 = 3 then p else q) = p := if_pos rfl
theorem G_gif (g : Mem) {A : Type} (n : A) (f : Int → A) : oK (getf S0 (ov g) 3 134 0) n f = f 135
  ∧ oK (getf S0 (ov g) 3 134 1) n f = f (rd g 134 1)
  ∧ oK (getf S0 (ov g) 3 134 2) n f = f 136
  ∧ oK (getf S0 (ov g) 3 134 3) n f = f 137
  ∧ oK (getf S0 (ov g) 3 134 4) n f = f (rd g 134 4)
  ∧ oK (getf S0 (ov g) 3 134 5) n f = f (rd g 134 5)
  ∧ oK (getf S0 (ov g) 3 134 6) n f = f (rd g 134 6) := ⟨rfl, rfl, rfl, rfl, rfl, rfl, rfl⟩
theorem P_gif (g : Mem) (x : Int) {A : Type} (n : A) (f : Mem → A) : oK (putf S0 (ov g) 3 134 1 x) n f = f (ov (wr g 134 1 x))
  ∧ oK (putf S0 (ov g) 3 134 4 x) n f = f (ov (wr g 134 4 x))
  ∧ oK (putf S0 (ov g) 3 134 5 x) n f = f (ov (wr g 134 5 x))
  ∧ oK (putf S0 (ov g) 3 134 6 x) n f = f (ov (wr g 134 6 x)) := ⟨((congrArg (fun o => oK o n f) (putf_pos (a := 134) (j := 1) (ci := 3) (i := 1) g x rfl rfl rfl)).trans rfl), ((congrArg (fun o => oK o n f) (putf_pos (a := 134) (j := 4) (ci := 3) (i := 4) g x rfl rfl rfl)).trans rfl), ((congrArg (fun o => oK o n f) (putf_pos (a := 134) (j := 5) (ci := 3) (i := 5) g x rfl rfl rfl)).trans rfl), ((congrArg (fun o => oK o n f) (putf_pos (a := 134) (j := 6) (ci := 3) (i := 6) g x rfl rfl rfl)).trans rfl)⟩
theorem K_ord {A : Type} (p q : A) : (if kd S0 138 = 5 then p else q) = p := if_pos rfl
theorem G_ord (g : Mem) {A : Type} (n : A) (f : Int → A) : oK (getf S0 (ov g) 5 138 0) n f = f 139
  ∧ oK (getf S0 (ov g) 5 138 1) n f = f (rd g 138 1)
  ∧ oK (getf S0 (ov g) 5 138 2) n f = f 140 := ⟨rfl, rfl, rfl⟩
theorem P_ord (g : Mem) (x : Int) {A : Type} (n : A) (f : Mem → A) : oK (putf S0 (ov g) 5 138 1 x) n f = f (ov (wr g 138 1 x)) := ((congrArg (fun o => oK o n f) (putf_pos (a := 138) (j := 1) (ci := 5) (i := 1) g x rfl rfl rfl)).trans rfl)
theorem K_mod {A : Type} (p q : A) : (if kd S0 143 = 11 then p else q) = p := if_pos rfl
theorem G_mod (g : Mem) {A : Type} (n : A) (f : Int → A) : oK (getf S0 (ov g) 11 143 0) n f = f 144
  ∧ oK (getf S0 (ov g) 11 143 1) n f = f 145
  ∧ oK (getf S0 (ov g) 11 143 2) n f = f (rd g 143 2)
  ∧ oK (getf S0 (ov g) 11 143 3) n f = f (rd g 143 3)
  ∧ oK (getf S0 (ov g) 11 143 4) n f = f (rd g 143 4)
  ∧ oK (getf S0 (ov g) 11 143 5) n f = f 146
  ∧ oK (getf S0 (ov g) 11 143 6) n f = f 147
  ∧ oK (getf S0 (ov g) 11 143 7) n f = f 148
  ∧ oK (getf S0 (ov g) 11 143 8) n f = f 149
  ∧ oK (getf S0 (ov g) 11 143 9) n f = f 150
  ∧ oK (getf S0 (ov g) 11 143 10) n f = f (rd g 143 10)
  ∧ oK (getf S0 (ov g) 11 143 11) n f = f (rd g 143 11)
  ∧ oK (getf S0 (ov g) 11 143 12) n f = f (rd g 143 12)
  ∧ oK (getf S0 (ov g) 11 143 13) n f = f (rd g 143 13)
  ∧ oK (getf S0 (ov g) 11 143 14) n f = f (rd g 143 14)
  ∧ oK (getf S0 (ov g) 11 143 15) n f = f (rd g 143 15)
  ∧ oK (getf S0 (ov g) 11 143 16) n f = f (rd g 143 16)
  ∧ oK (getf S0 (ov g) 11 143 17) n f = f (rd g 143 17)
  ∧ oK (getf S0 (ov g) 11 143 18) n f = f (rd g 143 18)
  ∧ oK (getf S0 (ov g) 11 143 19) n f = f (rd g 143 19)
  ∧ oK (getf S0 (ov g) 11 143 20) n f = f (rd g 143 20)
  ∧ oK (getf S0 (ov g) 11 143 21) n f = f 151
  ∧ oK (getf S0 (ov g) 11 143 22) n f = f (rd g 143 22)
  ∧ oK (getf S0 (ov g) 11 143 23) n f = f (rd g 143 23)
  ∧ oK (getf S0 (ov g) 11 143 24) n f = f 152
  ∧ oK (getf S0 (ov g) 11 143 25) n f = f 153
  ∧ oK (getf S0 (ov g) 11 143 26) n f = f 154
  ∧ oK (getf S0 (ov g) 11 143 27) n f = f 155
  ∧ oK (getf S0 (ov g) 11 143 28) n f = f 156
  ∧ oK (getf S0 (ov g) 11 143 29) n f = f 157
  ∧ oK (getf S0 (ov g) 11 143 30) n f = f 158
  ∧ oK (getf S0 (ov g) 11 143 31) n f = f (rd g 143 31)
  ∧ oK (getf S0 (ov g) 11 143 32) n f = f 159
  ∧ oK (getf S0 (ov g) 11 143 33) n f = f (rd g 143 33)
  ∧ oK (getf S0 (ov g) 11 143 34) n f = f (rd g 143 34)
  ∧ oK (getf S0 (ov g) 11 143 35) n f = f 160
  ∧ oK (getf S0 (ov g) 11 143 36) n f = f 161
  ∧ oK (getf S0 (ov g) 11 143 37) n f = f 162
  ∧ oK (getf S0 (ov g) 11 143 38) n f = f (rd g 143 38)
  ∧ oK (getf S0 (ov g) 11 143 39) n f = f (rd g 143 39) := ⟨rfl, rfl, rfl, rfl, rfl, rfl, rfl, rfl, rfl, rfl, rfl, rfl, rfl, rfl, rfl, rfl, rfl, rfl, rfl, rfl, rfl, rfl, rfl, rfl, rfl, rfl, rfl, rfl, rfl, rfl, rfl, rfl, rfl, rfl, rfl, rfl, rfl, rfl, rfl, rfl⟩
theorem P_mod (g : Mem) (x : Int) {A : Type} (n : A) (f : Mem → A) : oK (putf S0 (ov g) 11 143 2 x) n f = f (ov (wr g 143 2 x))
  ∧ oK (putf S0 (ov g) 11 143 3 x) n f = f (ov (wr g 143 3 x))
  ∧ oK (putf S0 (ov g) 11 143 4 x) n f = f (ov (wr g 143 4 x))
  ∧ oK (putf S0 (ov g) 11 143 10 x) n f = f (ov (wr g 143 10 x))
  ∧ oK (putf S0 (ov g) 11 143 11 x) n f = f (ov (wr g 143 11 x))
  ∧ oK (putf S0 (ov g) 11 143 12 x) n f = f (ov (wr g 143 12 x))
  ∧ oK (putf S0 (ov g) 11 143 13 x) n f = f (ov (wr g 143 13 x))
  ∧ oK (putf S0 (ov g) 11 143 14 x) n f = f (ov (wr g 143 14 x))
  ∧ oK (putf S0 (ov g) 11 143 15 x) n f = f (ov (wr g 143 15 x))
  ∧ oK (putf S0 (ov g) 11 143 16 x) n f = f (ov (wr g 143 16 x))
  ∧ oK (putf S0 (ov g) 11 143 17 x) n f = f (ov (wr g 143 17 x))
  ∧ oK (putf S0 (ov g) 11 143 18 x) n f = f (ov (wr g 143 18 x))
  ∧ oK (putf S0 (ov g) 11 143 19 x) n f = f (ov (wr g 143 19 x))
  ∧ oK (putf S0 (ov g) 11 143 20 x) n f = f (ov (wr g 143 20 x))
  ∧ oK (putf S0 (ov g) 11 143 22 x) n f = f (ov (wr g 143 22 x))
  ∧ oK (putf S0 (ov g) 11 143 23 x) n f = f (ov (wr g 143 23 x))
  ∧ oK (putf S0 (ov g) 11 143 31 x) n f = f (ov (wr g 143 31 x))
  ∧ oK (putf S0 (ov g) 11 143 33 x) n f = f (ov (wr g 143 33 x))
  ∧ oK (putf S0 (ov g) 11 143 34 x) n f = f (ov (wr g 143 34 x))
  ∧ oK (putf S0 (ov g) 11 143 38 x) n f = f (ov (wr g 143 38 x))
  ∧ oK (putf S0 (ov g) 11 143 39 x) n f = f (ov (wr g 143 39 x)) := ⟨((congrArg (fun o => oK o n f) (putf_pos (a := 143) (j := 2) (ci := 11) (i := 2) g x rfl rfl rfl)).trans rfl), ((congrArg (fun o => oK o n f) (putf_pos (a := 143) (j := 3) (ci := 11) (i := 3) g x rfl rfl rfl)).trans rfl), ((congrArg (fun o => oK o n f) (putf_pos (a := 143) (j := 4) (ci := 11) (i := 4) g x rfl rfl rfl)).trans rfl), ((congrArg (fun o => oK o n f) (putf_pos (a := 143) (j := 10) (ci := 11) (i := 10) g x rfl rfl rfl)).trans rfl), ((congrArg (fun o => oK o n f) (putf_pos (a := 143) (j := 11) (ci := 11) (i := 11) g x rfl rfl rfl)).trans rfl), ((congrArg (fun o => oK o n f) (putf_pos (a := 143) (j := 12) (ci := 11) (i := 12) g x rfl rfl rfl)).trans rfl), ((congrArg (fun o => oK o n f) (putf_pos (a := 143) (j := 13) (ci := 11) (i := 13) g x rfl rfl rfl)).trans rfl), ((congrArg (fun o => oK o n f) (putf_pos (a := 143) (j := 14) (ci := 11) (i := 14) g x rfl rfl rfl)).trans rfl), ((congrArg (fun o => oK o n f) (putf_pos (a := 143) (j := 15) (ci := 11) (i := 15) g x rfl rfl rfl)).trans rfl), ((congrArg (fun o => oK o n f) (putf_pos (a := 143) (j := 16) (ci := 11) (i := 16) g x rfl rfl rfl)).trans rfl), ((congrArg (fun o => oK o n f) (putf_pos (a := 143) (j := 17) (ci := 11) (i := 17) g x rfl rfl rfl)).trans rfl), ((congrArg (fun o => oK o n f) (putf_pos (a := 143) (j := 18) (ci := 11) (i := 18) g x rfl rfl rfl)).trans rfl), ((congrArg (fun o => oK o n f) (putf_pos (a := 143) (j := 19) (ci := 11) (i := 19) g x rfl rfl rfl)).trans rfl), ((congrArg (fun o => oK o n f) (putf_pos (a := 143) (j := 20) (ci := 11) (i := 20) g x rfl rfl rfl)).trans rfl), ((congrArg (fun o => oK o n f) (putf_pos (a := 143) (j := 22) (ci := 11) (i := 22) g x rfl rfl rfl)).trans rfl), ((congrArg (fun o => oK o n f) (putf_pos (a := 143) (j := 23) (ci := 11) (i := 23) g x rfl rfl rfl)).trans rfl), ((congrArg (fun o => oK o n f) (putf_pos (a := 143) (j := 31) (ci := 11) (i := 31) g x rfl rfl rfl)).trans rfl), ((congrArg (fun o => oK o n f) (putf_pos (a := 143) (j := 33) (ci := 11) (i := 33) g x rfl rfl rfl)).trans rfl), ((congrArg (fun o => oK o n f) (putf_pos (a := 143) (j := 34) (ci := 11) (i := 34) g x rfl rfl rfl)).trans rfl), ((congrArg (fun o => oK o n f) (putf_pos (a := 143) (j := 38) (ci := 11) (i := 38) g x rfl rfl rfl)).trans rfl), ((congrArg (fun o => oK o n f) (putf_pos (a := 143) (j := 39) (ci := 11) (i := 39) g x rfl rfl rfl)).trans rfl)⟩
theorem K_daw {b : Int} (hb : isD b) {A : Type} (p q : A) : (if kd S0 b = 1 then p else q) = p := by
  rcases hb with rfl | rfl | rfl | rfl | rfl <;> exact if_pos rfl
theorem G_daw {b : Int} (hb : isD b) (g : Mem) {A : Type} (n : A) (f : Int → A) : oK (getf S0 (ov g) 1 b 0) n f = f (rd g b 0)
  ∧ oK (getf S0 (ov g) 1 b 1) n f = f (rd g b 1)
  ∧ oK (getf S0 (ov g) 1 b 2) n f = f (b + 1)
  ∧ oK (getf S0 (ov g) 1 b 3) n f = f (b + 2)
  ∧ oK (getf S0 (ov g) 1 b 4) n f = f (b + 3)
  ∧ oK (getf S0 (ov g) 1 b 5) n f = f (b + 4)
  ∧ oK (getf S0 (ov g) 1 b 6) n f = f (b + 5)
  ∧ oK (getf S0 (ov g) 1 b 7) n f = f (b + 6)
  ∧ oK (getf S0 (ov g) 1 b 8) n f = f (b + 7)
  ∧ oK (getf S0 (ov g) 1 b 9) n f = f (b + 8)
  ∧ oK (getf S0 (ov g) 1 b 10) n f = f (b + 9)
  ∧ oK (getf S0 (ov g) 1 b 11) n f = f (b + 10)
  ∧ oK (getf S0 (ov g) 1 b 12) n f = f (b + 11)
  ∧ oK (getf S0 (ov g) 1 b 13) n f = f (b + 12)
  ∧ oK (getf S0 (ov g) 1 b 14) n f = f (rd g b 14)
  ∧ oK (getf S0 (ov g) 1 b 15) n f = f (rd g b 15)
  ∧ oK (getf S0 (ov g) 1 b 16) n f = f (rd g b 16)
  ∧ oK (getf S0 (ov g) 1 b 17) n f = f (rd g b 17)
  ∧ oK (getf S0 (ov g) 1 b 18) n f = f (rd g b 18)
  ∧ oK (getf S0 (ov g) 1 b 19) n f = f (b + 13) := by
  rcases hb with rfl | rfl | rfl | rfl | rfl <;> exact ⟨rfl, rfl, rfl, rfl, rfl, rfl, rfl, rfl, rfl, rfl, rfl, rfl, rfl, rfl, rfl, rfl, rfl, rfl, rfl, rfl⟩
theorem P_daw {b : Int} (hb : isD b) (g : Mem) (x : Int) {A : Type} (n : A) (f : Mem → A) : oK (putf S0 (ov g) 1 b 0 x) n f = f (ov (wr g b 0 x))
  ∧ oK (putf S0 (ov g) 1 b 1 x) n f = f (ov (wr g b 1 x))
  ∧ oK (putf S0 (ov g) 1 b 14 x) n f = f (ov (wr g b 14 x))
  ∧ oK (putf S0 (ov g) 1 b 15 x) n f = f (ov (wr g b 15 x))
  ∧ oK (putf S0 (ov g) 1 b 16 x) n f = f (ov (wr g b 16 x))
  ∧ oK (putf S0 (ov g) 1 b 17 x) n f = f (ov (wr g b 17 x))
  ∧ oK (putf S0 (ov g) 1 b 18 x) n f = f (ov (wr g b 18 x)) := by
  rcases hb with rfl | rfl | rfl | rfl | rfl
  · exact ⟨((congrArg (fun o => oK o n f) (putf_pos (a := 19) (j := 0) (ci := 1) (i := 0) g x rfl rfl rfl)).trans rfl), ((congrArg (fun o => oK o n f) (putf_pos (a := 19) (j := 1) (ci := 1) (i := 1) g x rfl rfl rfl)).trans rfl), ((congrArg (fun o => oK o n f) (putf_pos (a := 19) (j := 14) (ci := 1) (i := 14) g x rfl rfl rfl)).trans rfl), ((congrArg (fun o => oK o n f) (putf_pos (a := 19) (j := 15) (ci := 1) (i := 15) g x rfl rfl rfl)).trans rfl), ((congrArg (fun o => oK o n f) (putf_pos (a := 19) (j := 16) (ci := 1) (i := 16) g x rfl rfl rfl)).trans rfl), ((congrArg (fun o => oK o n f) (putf_pos (a := 19) (j := 17) (ci := 1) (i := 17) g x rfl rfl rfl)).trans rfl), ((congrArg (fun o => oK o n f) (putf_pos (a := 19) (j := 18) (ci := 1) (i := 18) g x rfl rfl rfl)).trans rfl)⟩
  · exact ⟨((congrArg (fun o => oK o n f) (putf_pos (a := 40) (j := 0) (ci := 1) (i := 0) g x rfl rfl rfl)).trans rfl), ((congrArg (fun o => oK o n f) (putf_pos (a := 40) (j := 1) (ci := 1) (i := 1) g x rfl rfl rfl)).trans rfl), ((congrArg (fun o => oK o n f) (putf_pos (a := 40) (j := 14) (ci := 1) (i := 14) g x rfl rfl rfl)).trans rfl), ((congrArg (fun o => oK o n f) (putf_pos (a := 40) (j := 15) (ci := 1) (i := 15) g x rfl rfl rfl)).trans rfl), ((congrArg (fun o => oK o n f) (putf_pos (a := 40) (j := 16) (ci := 1) (i := 16) g x rfl rfl rfl)).trans rfl), ((congrArg (fun o => oK o n f) (putf_pos (a := 40) (j := 17) (ci := 1) (i := 17) g x rfl rfl rfl)).trans rfl), ((congrArg (fun o => oK o n f) (putf_pos (a := 40) (j := 18) (ci := 1) (i := 18) g x rfl rfl rfl)).trans rfl)⟩
  · exact ⟨((congrArg (fun o => oK o n f) (putf_pos (a := 62) (j := 0) (ci := 1) (i := 0) g x rfl rfl rfl)).trans rfl), ((congrArg (fun o => oK o n f) (putf_pos (a := 62) (j := 1) (ci := 1) (i := 1) g x rfl rfl rfl)).trans rfl), ((congrArg (fun o => oK o n f) (putf_pos (a := 62) (j := 14) (ci := 1) (i := 14) g x rfl rfl rfl)).trans rfl), ((congrArg (fun o => oK o n f) (putf_pos (a := 62) (j := 15) (ci := 1) (i := 15) g x rfl rfl rfl)).trans rfl), ((congrArg (fun o => oK o n f) (putf_pos (a := 62) (j := 16) (ci := 1) (i := 16) g x rfl rfl rfl)).trans rfl), ((congrArg (fun o => oK o n f) (putf_pos (a := 62) (j := 17) (ci := 1) (i := 17) g x rfl rfl rfl)).trans rfl), ((congrArg (fun o => oK o n f) (putf_pos (a := 62) (j := 18) (ci := 1) (i := 18) g x rfl rfl rfl)).trans rfl)⟩
  · exact ⟨((congrArg (fun o => oK o n f) (putf_pos (a := 83) (j := 0) (ci := 1) (i := 0) g x rfl rfl rfl)).trans rfl), ((congrArg (fun o => oK o n f) (putf_pos (a := 83) (j := 1) (ci := 1) (i := 1) g x rfl rfl rfl)).trans rfl), ((congrArg (fun o => oK o n f) (putf_pos (a := 83) (j := 14) (ci := 1) (i := 14) g x rfl rfl rfl)).trans rfl), ((congrArg (fun o => oK o n f) (putf_pos (a := 83) (j := 15) (ci := 1) (i := 15) g x rfl rfl rfl)).trans rfl), ((congrArg (fun o => oK o n f) (putf_pos (a := 83) (j := 16) (ci := 1) (i := 16) g x rfl rfl rfl)).trans rfl), ((congrArg (fun o => oK o n f) (putf_pos (a := 83) (j := 17) (ci := 1) (i := 17) g x rfl rfl rfl)).trans rfl), ((congrArg (fun o => oK o n f) (putf_pos (a := 83) (j := 18) (ci := 1) (i := 18) g x rfl rfl rfl)).trans rfl)⟩
  · exact ⟨((congrArg (fun o => oK o n f) (putf_pos (a := 104) (j := 0) (ci := 1) (i := 0) g x rfl rfl rfl)).trans rfl), ((congrArg (fun o => oK o n f) (putf_pos (a := 104) (j := 1) (ci := 1) (i := 1) g x rfl rfl rfl)).trans rfl), ((congrArg (fun o => oK o n f) (putf_pos (a := 104) (j := 14) (ci := 1) (i := 14) g x rfl rfl rfl)).trans rfl), ((congrArg (fun o => oK o n f) (putf_pos (a := 104) (j := 15) (ci := 1) (i := 15) g x rfl rfl rfl)).trans rfl), ((congrArg (fun o => oK o n f) (putf_pos (a := 104) (j := 16) (ci := 1) (i := 16) g x rfl rfl rfl)).trans rfl), ((congrArg (fun o => oK o n f) (putf_pos (a := 104) (j := 17) (ci := 1) (i := 17) g x rfl rfl rfl)).trans rfl), ((congrArg (fun o => oK o n f) (putf_pos (a := 104) (j := 18) (ci := 1) (i := 18) g x rfl rfl rfl)).trans rfl)⟩
theorem K_yrs {b : Int} (hb : isD b) {A : Type} (p q : A) : (if kd S0 (b + 13) = 8 then p else q) = p := by
  rcases hb with rfl | rfl | rfl | rfl | rfl <;> exact if_pos rfl
theorem G_yrs {b : Int} (hb : isD b) (g : Mem) {A : Type} (n : A) (f : Int → A) : oK (getf S0 (ov g) 8 (b + 13) 0) n f = f (rd g (b + 13) 0)
  ∧ oK (getf S0 (ov g) 8 (b + 13) 1) n f = f (rd g (b + 13) 1)
  ∧ oK (getf S0 (ov g) 8 (b + 13) 2) n f = f (b + 14)
  ∧ oK (getf S0 (ov g) 8 (b + 13) 3) n f = f (b + 15)
  ∧ oK (getf S0 (ov g) 8 (b + 13) 4) n f = f (b + 16)
  ∧ oK (getf S0 (ov g) 8 (b + 13) 5) n f = f (b + 17)
  ∧ oK (getf S0 (ov g) 8 (b + 13) 6) n f = f (b + 18)
  ∧ oK (getf S0 (ov g) 8 (b + 13) 7) n f = f (b + 19)
  ∧ oK (getf S0 (ov g) 8 (b + 13) 8) n f = f (b + 20) := by
  rcases hb with rfl | rfl | rfl | rfl | rfl <;> exact ⟨rfl, rfl, rfl, rfl, rfl, rfl, rfl, rfl, rfl⟩
theorem P_yrs {b : Int} (hb : isD b) (g : Mem) (x : Int) {A : Type} (n : A) (f : Mem → A) : oK (putf S0 (ov g) 8 (b + 13) 0 x) n f = f (ov (wr g (b + 13) 0 x))
  ∧ oK (putf S0 (ov g) 8 (b + 13) 1 x) n f = f (ov (wr g (b + 13) 1 x)) := by
  rcases hb with rfl | rfl | rfl | rfl | rfl
  · exact ⟨((congrArg (fun o => oK o n f) (putf_pos (a := 32) (j := 0) (ci := 8) (i := 0) g x rfl rfl rfl)).trans rfl), ((congrArg (fun o => oK o n f) (putf_pos (a := 32) (j := 1) (ci := 8) (i := 1) g x rfl rfl rfl)).trans rfl)⟩
  · exact ⟨((congrArg (fun o => oK o n f) (putf_pos (a := 53) (j := 0) (ci := 8) (i := 0) g x rfl rfl rfl)).trans rfl), ((congrArg (fun o => oK o n f) (putf_pos (a := 53) (j := 1) (ci := 8) (i := 1) g x rfl rfl rfl)).trans rfl)⟩
  · exact ⟨((congrArg (fun o => oK o n f) (putf_pos (a := 75) (j := 0) (ci := 8) (i := 0) g x rfl rfl rfl)).trans rfl), ((congrArg (fun o => oK o n f) (putf_pos (a := 75) (j := 1) (ci := 8) (i := 1) g x rfl rfl rfl)).trans rfl)⟩
  · exact ⟨((congrArg (fun o => oK o n f) (putf_pos (a := 96) (j := 0) (ci := 8) (i := 0) g x rfl rfl rfl)).trans rfl), ((congrArg (fun o => oK o n f) (putf_pos (a := 96) (j := 1) (ci := 8) (i := 1) g x rfl rfl rfl)).trans rfl)⟩
  · exact ⟨((congrArg (fun o => oK o n f) (putf_pos (a := 117) (j := 0) (ci := 8) (i := 0) g x rfl rfl rfl)).trans rfl), ((congrArg (fun o => oK o n f) (putf_pos (a := 117) (j := 1) (ci := 8) (i := 1) g x rfl rfl rfl)).trans rfl)⟩
theorem K_liv {b : Int} (hb : isL b) {A : Type} (p q : A) : (if kd S0 b = 4 then p else q) = p := by
  rcases hb with rfl | rfl <;> exact if_pos rfl
theorem G_liv {b : Int} (hb : isL b) (g : Mem) {A : Type} (n : A) (f : Int → A) : oK (getf S0 (ov g) 4 b 0) n f = f 125
  ∧ oK (getf S0 (ov g) 4 b 1) n f = f (rd g b 1)
  ∧ oK (getf S0 (ov g) 4 b 2) n f = f (rd g b 2)
  ∧ oK (getf S0 (ov g) 4 b 3) n f = f (rd g b 3)
  ∧ oK (getf S0 (ov g) 4 b 4) n f = f (rd g b 4)
  ∧ oK (getf S0 (ov g) 4 b 5) n f = f (rd g b 5)
  ∧ oK (getf S0 (ov g) 4 b 6) n f = f (rd g b 6)
  ∧ oK (getf S0 (ov g) 4 b 7) n f = f (rd g b 7)
  ∧ oK (getf S0 (ov g) 4 b 8) n f = f (rd g b 8) := by
  rcases hb with rfl | rfl <;> exact ⟨rfl, rfl, rfl, rfl, rfl, rfl, rfl, rfl, rfl⟩
theorem P_liv {b : Int} (hb : isL b) (g : Mem) (x : Int) {A : Type} (n : A) (f : Mem → A) : oK (putf S0 (ov g) 4 b 1 x) n f = f (ov (wr g b 1 x))
  ∧ oK (putf S0 (ov g) 4 b 2 x) n f = f (ov (wr g b 2 x))
  ∧ oK (putf S0 (ov g) 4 b 3 x) n f = f (ov (wr g b 3 x))
  ∧ oK (putf S0 (ov g) 4 b 4 x) n f = f (ov (wr g b 4 x))
  ∧ oK (putf S0 (ov g) 4 b 5 x) n f = f (ov (wr g b 5 x))
  ∧ oK (putf S0 (ov g) 4 b 6 x) n f = f (ov (wr g b 6 x))
  ∧ oK (putf S0 (ov g) 4 b 7 x) n f = f (ov (wr g b 7 x))
  ∧ oK (putf S0 (ov g) 4 b 8 x) n f = f (ov (wr g b 8 x)) := by
  rcases hb with rfl | rfl
  · exact ⟨((congrArg (fun o => oK o n f) (putf_pos (a := 141) (j := 1) (ci := 4) (i := 1) g x rfl rfl rfl)).trans rfl), ((congrArg (fun o => oK o n f) (putf_pos (a := 141) (j := 2) (ci := 4) (i := 2) g x rfl rfl rfl)).trans rfl), ((congrArg (fun o => oK o n f) (putf_pos (a := 141) (j := 3) (ci := 4) (i := 3) g x rfl rfl rfl)).trans rfl), ((congrArg (fun o => oK o n f) (putf_pos (a := 141) (j := 4) (ci := 4) (i := 4) g x rfl rfl rfl)).trans rfl), ((congrArg (fun o => oK o n f) (putf_pos (a := 141) (j := 5) (ci := 4) (i := 5) g x rfl rfl rfl)).trans rfl), ((congrArg (fun o => oK o n f) (putf_pos (a := 141) (j := 6) (ci := 4) (i := 6) g x rfl rfl rfl)).trans rfl), ((congrArg (fun o => oK o n f) (putf_pos (a := 141) (j := 7) (ci := 4) (i := 7) g x rfl rfl rfl)).trans rfl), ((congrArg (fun o => oK o n f) (putf_pos (a := 141) (j := 8) (ci := 4) (i := 8) g x rfl rfl rfl)).trans rfl)⟩
  · exact ⟨((congrArg (fun o => oK o n f) (putf_pos (a := 142) (j := 1) (ci := 4) (i := 1) g x rfl rfl rfl)).trans rfl), ((congrArg (fun o => oK o n f) (putf_pos (a := 142) (j := 2) (ci := 4) (i := 2) g x rfl rfl rfl)).trans rfl), ((congrArg (fun o => oK o n f) (putf_pos (a := 142) (j := 3) (ci := 4) (i := 3) g x rfl rfl rfl)).trans rfl), ((congrArg (fun o => oK o n f) (putf_pos (a := 142) (j := 4) (ci := 4) (i := 4) g x rfl rfl rfl)).trans rfl), ((congrArg (fun o => oK o n f) (putf_pos (a := 142) (j := 5) (ci := 4) (i := 5) g x rfl rfl rfl)).trans rfl), ((congrArg (fun o => oK o n f) (putf_pos (a := 142) (j := 6) (ci := 4) (i := 6) g x rfl rfl rfl)).trans rfl), ((congrArg (fun o => oK o n f) (putf_pos (a := 142) (j := 7) (ci := 4) (i := 7) g x rfl rfl rfl)).trans rfl), ((congrArg (fun o => oK o n f) (putf_pos (a := 142) (j := 8) (ci := 4) (i := 8) g x rfl rfl rfl)).trans rfl)⟩
theorem al_8 (X : Xs) (g : Mem) {i : Int} (h1 : 0 ≤ i) (h2 : i < 4) {A : Type} (n : A) (f : Int → A) : oK (aldI X S0 (ov g) 8 i) n f = f (rd g 8 i) := ((congrArg (fun o => oK o n f) (aldI_pos (a := 8) (n := 4) X (ov g) (by decide) rfl rfl h1 h2)).trans rfl)
theorem as_8 (g : Mem) {i : Int} (x : Int) (h1 : 0 ≤ i) (h2 : i < 4) {A : Type} (n : A) (f : Mem → A) : oK (ast S0 (ov g) 20 8 i x) n f = f (ov (wr g 8 i x)) := ((congrArg (fun o => oK o n f) (ast_pos (a := 8) (n := 4) (K := 20) g x (fun _ => rfl) rfl rfl h1 h2)).trans rfl)
theorem al_9 (X : Xs) (g : Mem) {i : Int} (h1 : 0 ≤ i) (h2 : i < 4) {A : Type} (n : A) (f : Int → A) : oK (aldI X S0 (ov g) 9 i) n f = f (rd g 9 i) := ((congrArg (fun o => oK o n f) (aldI_pos (a := 9) (n := 4) X (ov g) (by decide) rfl rfl h1 h2)).trans rfl)
theorem as_9 (g : Mem) {i : Int} (x : Int) (h1 : 0 ≤ i) (h2 : i < 4) {A : Type} (n : A) (f : Mem → A) : oK (ast S0 (ov g) 20 9 i x) n f = f (ov (wr g 9 i x)) := ((congrArg (fun o => oK o n f) (ast_pos (a := 9) (n := 4) (K := 20) g x (fun _ => rfl) rfl rfl h1 h2)).trans rfl)
theorem al_10 (g : Mem) {i : Int} (h1 : 0 ≤ i) (h2 : i < 900) {A : Type} (n : A) (f : Int → A) : oK (aldB S0 (ov g) 10 i) n f = f (rd g 10 i) := ((congrArg (fun o => oK o n f) (aldB_pos (a := 10) (n := 900) (ov g) (by decide) rfl rfl h1 h2)).trans rfl)
theorem as_10 (g : Mem) {i : Int} (x : Int) (h1 : 0 ≤ i) (h2 : i < 900) {A : Type} (n : A) (f : Mem → A) : oK (ast S0 (ov g) 22 10 i x) n f = f (ov (wr g 10 i x)) := ((congrArg (fun o => oK o n f) (ast_pos (a := 10) (n := 900) (K := 22) g x (fun _ => rfl) rfl rfl h1 h2)).trans rfl)
theorem al_12 (g : Mem) {i : Int} (h1 : 0 ≤ i) (h2 : i < 901) {A : Type} (n : A) (f : Int → A) : oK (aldB S0 (ov g) 12 i) n f = f (rd g 12 i) := ((congrArg (fun o => oK o n f) (aldB_pos (a := 12) (n := 901) (ov g) (by decide) rfl rfl h1 h2)).trans rfl)
theorem as_12 (g : Mem) {i : Int} (x : Int) (h1 : 0 ≤ i) (h2 : i < 901) {A : Type} (n : A) (f : Mem → A) : oK (ast S0 (ov g) 22 12 i x) n f = f (ov (wr g 12 i x)) := ((congrArg (fun o => oK o n f) (ast_pos (a := 12) (n := 901) (K := 22) g x (fun _ => rfl) rfl rfl h1 h2)).trans rfl)
theorem al_13 (g : Mem) {i : Int} (h1 : 0 ≤ i) (h2 : i < 901) {A : Type} (n : A) (f : Int → A) : oK (ald S0 (ov g) 23 13 i) n f = f (rd g 13 i) := ((congrArg (fun o => oK o n f) (ald_pos (a := 13) (n := 901) (K := 23) (ov g) rfl rfl h1 h2)).trans rfl)
theorem as_13 (g : Mem) {i : Int} (x : Int) (h1 : 0 ≤ i) (h2 : i < 901) {A : Type} (n : A) (f : Mem → A) : oK (ast S0 (ov g) 23 13 i x) n f = f (ov (wr g 13 i x)) := ((congrArg (fun o => oK o n f) (ast_pos (a := 13) (n := 901) (K := 23) g x (fun _ => rfl) rfl rfl h1 h2)).trans rfl)
theorem al_14 (g : Mem) {i : Int} (h1 : 0 ≤ i) (h2 : i < 901) {A : Type} (n : A) (f : Int → A) : oK (ald S0 (ov g) 21 14 i) n f = f (rd g 14 i) := ((congrArg (fun o => oK o n f) (ald_pos (a := 14) (n := 901) (K := 21) (ov g) rfl rfl h1 h2)).trans rfl)
theorem as_14 (g : Mem) {i : Int} (x : Int) (h1 : 0 ≤ i) (h2 : i < 901) {A : Type} (n : A) (f : Mem → A) : oK (ast S0 (ov g) 21 14 i x) n f = f (ov (wr g 14 i x)) := ((congrArg (fun o => oK o n f) (ast_pos (a := 14) (n := 901) (K := 21) g x (fun _ => rfl) rfl rfl h1 h2)).trans rfl)
theorem al_15 (g : Mem) {i : Int} (h1 : 0 ≤ i) (h2 : i < 26) {A : Type} (n : A) (f : Int → A) : oK (ald S0 (ov g) 21 15 i) n f = f (rd g 15 i) := ((congrArg (fun o => oK o n f) (ald_pos (a := 15) (n := 26) (K := 21) (ov g) rfl rfl h1 h2)).trans rfl)
theorem as_15 (g : Mem) {i : Int} (x : Int) (h1 : 0 ≤ i) (h2 : i < 26) {A : Type} (n : A) (f : Mem → A) : oK (ast S0 (ov g) 21 15 i x) n f = f (ov (wr g 15 i x)) := ((congrArg (fun o => oK o n f) (ast_pos (a := 15) (n := 26) (K := 21) g x (fun _ => rfl) rfl rfl h1 h2)).trans rfl)
theorem al_18 (X : Xs) (g : Mem) {i : Int} (h1 : 0 ≤ i) (h2 : i < 3) {A : Type} (n : A) (f : Int → A) : oK (aldI X S0 (ov g) 18 i) n f = f (rd g 18 i) := ((congrArg (fun o => oK o n f) (aldI_pos (a := 18) (n := 3) X (ov g) (by decide) rfl rfl h1 h2)).trans rfl)
theorem as_18 (g : Mem) {i : Int} (x : Int) (h1 : 0 ≤ i) (h2 : i < 3) {A : Type} (n : A) (f : Mem → A) : oK (ast S0 (ov g) 20 18 i x) n f = f (ov (wr g 18 i x)) := ((congrArg (fun o => oK o n f) (ast_pos (a := 18) (n := 3) (K := 20) g x (fun _ => rfl) rfl rfl h1 h2)).trans rfl)
theorem al_126 (X : Xs) (g : Mem) {i : Int} (h1 : 0 ≤ i) (h2 : i < 2) {A : Type} (n : A) (f : Int → A) : oK (aldI X S0 (ov g) 126 i) n f = f (rd g 126 i) := ((congrArg (fun o => oK o n f) (aldI_pos (a := 126) (n := 2) X (ov g) (by decide) rfl rfl h1 h2)).trans rfl)
theorem as_126 (g : Mem) {i : Int} (x : Int) (h1 : 0 ≤ i) (h2 : i < 2) {A : Type} (n : A) (f : Mem → A) : oK (ast S0 (ov g) 20 126 i x) n f = f (ov (wr g 126 i x)) := ((congrArg (fun o => oK o n f) (ast_pos (a := 126) (n := 2) (K := 20) g x (fun _ => rfl) rfl rfl h1 h2)).trans rfl)
theorem al_127 (X : Xs) (g : Mem) {i : Int} (h1 : 0 ≤ i) (h2 : i < 2) {A : Type} (n : A) (f : Int → A) : oK (aldI X S0 (ov g) 127 i) n f = f (rd g 127 i) := ((congrArg (fun o => oK o n f) (aldI_pos (a := 127) (n := 2) X (ov g) (by decide) rfl rfl h1 h2)).trans rfl)
theorem as_127 (g : Mem) {i : Int} (x : Int) (h1 : 0 ≤ i) (h2 : i < 2) {A : Type} (n : A) (f : Mem → A) : oK (ast S0 (ov g) 20 127 i x) n f = f (ov (wr g 127 i x)) := ((congrArg (fun o => oK o n f) (ast_pos (a := 127) (n := 2) (K := 20) g x (fun _ => rfl) rfl rfl h1 h2)).trans rfl)
theorem al_128 (X : Xs) (g : Mem) {i : Int} (h1 : 0 ≤ i) (h2 : i < 2) {A : Type} (n : A) (f : Int → A) : oK (aldI X S0 (ov g) 128 i) n f = f (rd g 128 i) := ((congrArg (fun o => oK o n f) (aldI_pos (a := 128) (n := 2) X (ov g) (by decide) rfl rfl h1 h2)).trans rfl)
theorem as_128 (g : Mem) {i : Int} (x : Int) (h1 : 0 ≤ i) (h2 : i < 2) {A : Type} (n : A) (f : Mem → A) : oK (ast S0 (ov g) 20 128 i x) n f = f (ov (wr g 128 i x)) := ((congrArg (fun o => oK o n f) (ast_pos (a := 128) (n := 2) (K := 20) g x (fun _ => rfl) rfl rfl h1 h2)).trans rfl)
theorem al_129 (X : Xs) (g : Mem) {i : Int} (h1 : 0 ≤ i) (h2 : i < 2) {A : Type} (n : A) (f : Int → A) : oK (aldI X S0 (ov g) 129 i) n f = f (rd g 129 i) := ((congrArg (fun o => oK o n f) (aldI_pos (a := 129) (n := 2) X (ov g) (by decide) rfl rfl h1 h2)).trans rfl)
theorem as_129 (g : Mem) {i : Int} (x : Int) (h1 : 0 ≤ i) (h2 : i < 2) {A : Type} (n : A) (f : Mem → A) : oK (ast S0 (ov g) 20 129 i x) n f = f (ov (wr g 129 i x)) := ((congrArg (fun o => oK o n f) (ast_pos (a := 129) (n := 2) (K := 20) g x (fun _ => rfl) rfl rfl h1 h2)).trans rfl)
theorem al_130 (X : Xs) (g : Mem) {i : Int} (h1 : 0 ≤ i) (h2 : i < 2) {A : Type} (n : A) (f : Int → A) : oK (aldI X S0 (ov g) 130 i) n f = f (rd g 130 i) := ((congrArg (fun o => oK o n f) (aldI_pos (a := 130) (n := 2) X (ov g) (by decide) rfl rfl h1 h2)).trans rfl)
theorem as_130 (g : Mem) {i : Int} (x : Int) (h1 : 0 ≤ i) (h2 : i < 2) {A : Type} (n : A) (f : Mem → A) : oK (ast S0 (ov g) 20 130 i x) n f = f (ov (wr g 130 i x)) := ((congrArg (fun o => oK o n f) (ast_pos (a := 130) (n := 2) (K := 20) g x (fun _ => rfl) rfl rfl h1 h2)).trans rfl)
theorem al_131 (X : Xs) (g : Mem) {i : Int} (h1 : 0 ≤ i) (h2 : i < 2) {A : Type} (n : A) (f : Int → A) : oK (aldI X S0 (ov g) 131 i) n f = f (rd g 131 i) := ((congrArg (fun o => oK o n f) (aldI_pos (a := 131) (n := 2) X (ov g) (by decide) rfl rfl h1 h2)).trans rfl)
theorem as_131 (g : Mem) {i : Int} (x : Int) (h1 : 0 ≤ i) (h2 : i < 2) {A : Type} (n : A) (f : Mem → A) : oK (ast S0 (ov g) 20 131 i x) n f = f (ov (wr g 131 i x)) := ((congrArg (fun o => oK o n f) (ast_pos (a := 131) (n := 2) (K := 20) g x (fun _ => rfl) rfl rfl h1 h2)).trans rfl)
theorem al_132 (X : Xs) (g : Mem) {i : Int} (h1 : 0 ≤ i) (h2 : i < 2) {A : Type} (n : A) (f : Int → A) : oK (aldI X S0 (ov g) 132 i) n f = f (rd g 132 i) := ((congrArg (fun o => oK o n f) (aldI_pos (a := 132) (n := 2) X (ov g) (by decide) rfl rfl h1 h2)).trans rfl)
theorem as_132 (g : Mem) {i : Int} (x : Int) (h1 : 0 ≤ i) (h2 : i < 2) {A : Type} (n : A) (f : Mem → A) : oK (ast S0 (ov g) 20 132 i x) n f = f (ov (wr g 132 i x)) := ((congrArg (fun o => oK o n f) (ast_pos (a := 132) (n := 2) (K := 20) g x (fun _ => rfl) rfl rfl h1 h2)).trans rfl)
theorem al_133 (X : Xs) (g : Mem) {i : Int} (h1 : 0 ≤ i) (h2 : i < 2) {A : Type} (n : A) (f : Int → A) : oK (aldI X S0 (ov g) 133 i) n f = f (rd g 133 i) := ((congrArg (fun o => oK o n f) (aldI_pos (a := 133) (n := 2) X (ov g) (by decide) rfl rfl h1 h2)).trans rfl)
theorem as_133 (g : Mem) {i : Int} (x : Int) (h1 : 0 ≤ i) (h2 : i < 2) {A : Type} (n : A) (f : Mem → A) : oK (ast S0 (ov g) 20 133 i x) n f = f (ov (wr g 133 i x)) := ((congrArg (fun o => oK o n f) (ast_pos (a := 133) (n := 2) (K := 20) g x (fun _ => rfl) rfl rfl h1 h2)).trans rfl)
theorem al_135 (X : Xs) (g : Mem) {i : Int} (h1 : 0 ≤ i) (h2 : i < 6) {A : Type} (n : A) (f : Int → A) : oK (aldI X S0 (ov g) 135 i) n f = f (rd g 135 i) := ((congrArg (fun o => oK o n f) (aldI_pos (a := 135) (n := 6) X (ov g) (by decide) rfl rfl h1 h2)).trans rfl)
theorem as_135 (g : Mem) {i : Int} (x : Int) (h1 : 0 ≤ i) (h2 : i < 6) {A : Type} (n : A) (f : Mem → A) : oK (ast S0 (ov g) 20 135 i x) n f = f (ov (wr g 135 i x)) := ((congrArg (fun o => oK o n f) (ast_pos (a := 135) (n := 6) (K := 20) g x (fun _ => rfl) rfl rfl h1 h2)).trans rfl)
theorem al_136 (X : Xs) (g : Mem) {i : Int} (h1 : 0 ≤ i) (h2 : i < 6) {A : Type} (n : A) (f : Int → A) : oK (aldI X S0 (ov g) 136 i) n f = f (rd g 136 i) := ((congrArg (fun o => oK o n f) (aldI_pos (a := 136) (n := 6) X (ov g) (by decide) rfl rfl h1 h2)).trans rfl)
theorem as_136 (g : Mem) {i : Int} (x : Int) (h1 : 0 ≤ i) (h2 : i < 6) {A : Type} (n : A) (f : Mem → A) : oK (ast S0 (ov g) 20 136 i x) n f = f (ov (wr g 136 i x)) := ((congrArg (fun o => oK o n f) (ast_pos (a := 136) (n := 6) (K := 20) g x (fun _ => rfl) rfl rfl h1 h2)).trans rfl)
theorem al_137 (X : Xs) (g : Mem) {i : Int} (h1 : 0 ≤ i) (h2 : i < 48) {A : Type} (n : A) (f : Int → A) : oK (aldI X S0 (ov g) 137 i) n f = f (rd g 137 i) := ((congrArg (fun o => oK o n f) (aldI_pos (a := 137) (n := 48) X (ov g) (by decide) rfl rfl h1 h2)).trans rfl)
theorem as_137 (g : Mem) {i : Int} (x : Int) (h1 : 0 ≤ i) (h2 : i < 48) {A : Type} (n : A) (f : Mem → A) : oK (ast S0 (ov g) 20 137 i x) n f = f (ov (wr g 137 i x)) := ((congrArg (fun o => oK o n f) (ast_pos (a := 137) (n := 48) (K := 20) g x (fun _ => rfl) rfl rfl h1 h2)).trans rfl)
theorem al_139 (X : Xs) (g : Mem) {i : Int} (h1 : 0 ≤ i) (h2 : i < 6) {A : Type} (n : A) (f : Int → A) : oK (aldI X S0 (ov g) 139 i) n f = f (rd g 139 i) := ((congrArg (fun o => oK o n f) (aldI_pos (a := 139) (n := 6) X (ov g) (by decide) rfl rfl h1 h2)).trans rfl)
theorem as_139 (g : Mem) {i : Int} (x : Int) (h1 : 0 ≤ i) (h2 : i < 6) {A : Type} (n : A) (f : Mem → A) : oK (ast S0 (ov g) 20 139 i x) n f = f (ov (wr g 139 i x)) := ((congrArg (fun o => oK o n f) (ast_pos (a := 139) (n := 6) (K := 20) g x (fun _ => rfl) rfl rfl h1 h2)).trans rfl)
theorem al_140 (X : Xs) (g : Mem) {i : Int} (h1 : 0 ≤ i) (h2 : i < 6) {A : Type} (n : A) (f : Int → A) : oK (aldI X S0 (ov g) 140 i) n f = f (rd g 140 i) := ((congrArg (fun o => oK o n f) (aldI_pos (a := 140) (n := 6) X (ov g) (by decide) rfl rfl h1 h2)).trans rfl)
theorem as_140 (g : Mem) {i : Int} (x : Int) (h1 : 0 ≤ i) (h2 : i < 6) {A : Type} (n : A) (f : Mem → A) : oK (ast S0 (ov g) 20 140 i x) n f = f (ov (wr g 140 i x)) := ((congrArg (fun o => oK o n f) (ast_pos (a := 140) (n := 6) (K := 20) g x (fun _ => rfl) rfl rfl h1 h2)).trans rfl)
theorem al_144 (X : Xs) (g : Mem) {i : Int} (h1 : 0 ≤ i) (h2 : i < 3768) {A : Type} (n : A) (f : Int → A) : oK (aldI X S0 (ov g) 144 i) n f = f (rd g 144 i) := ((congrArg (fun o => oK o n f) (aldI_pos (a := 144) (n := 3768) X (ov g) (by decide) rfl rfl h1 h2)).trans rfl)
theorem as_144 (g : Mem) {i : Int} (x : Int) (h1 : 0 ≤ i) (h2 : i < 3768) {A : Type} (n : A) (f : Mem → A) : oK (ast S0 (ov g) 20 144 i x) n f = f (ov (wr g 144 i x)) := ((congrArg (fun o => oK o n f) (ast_pos (a := 144) (n := 3768) (K := 20) g x (fun _ => rfl) rfl rfl h1 h2)).trans rfl)
theorem al_145 (g : Mem) {i : Int} (h1 : 0 ≤ i) (h2 : i < 84) {A : Type} (n : A) (f : Int → A) : oK (ald S0 (ov g) 21 145 i) n f = f (rd g 145 i) := ((congrArg (fun o => oK o n f) (ald_pos (a := 145) (n := 84) (K := 21) (ov g) rfl rfl h1 h2)).trans rfl)
theorem as_145 (g : Mem) {i : Int} (x : Int) (h1 : 0 ≤ i) (h2 : i < 84) {A : Type} (n : A) (f : Mem → A) : oK (ast S0 (ov g) 21 145 i x) n f = f (ov (wr g 145 i x)) := ((congrArg (fun o => oK o n f) (ast_pos (a := 145) (n := 84) (K := 21) g x (fun _ => rfl) rfl rfl h1 h2)).trans rfl)
theorem al_146 (X : Xs) (g : Mem) {i : Int} (h1 : 0 ≤ i) (h2 : i < 4) {A : Type} (n : A) (f : Int → A) : oK (aldI X S0 (ov g) 146 i) n f = f (rd g 146 i) := ((congrArg (fun o => oK o n f) (aldI_pos (a := 146) (n := 4) X (ov g) (by decide) rfl rfl h1 h2)).trans rfl)
theorem as_146 (g : Mem) {i : Int} (x : Int) (h1 : 0 ≤ i) (h2 : i < 4) {A : Type} (n : A) (f : Mem → A) : oK (ast S0 (ov g) 20 146 i x) n f = f (ov (wr g 146 i x)) := ((congrArg (fun o => oK o n f) (ast_pos (a := 146) (n := 4) (K := 20) g x (fun _ => rfl) rfl rfl h1 h2)).trans rfl)
theorem al_147 (X : Xs) (g : Mem) {i : Int} (h1 : 0 ≤ i) (h2 : i < 4) {A : Type} (n : A) (f : Int → A) : oK (aldI X S0 (ov g) 147 i) n f = f (rd g 147 i) := ((congrArg (fun o => oK o n f) (aldI_pos (a := 147) (n := 4) X (ov g) (by decide) rfl rfl h1 h2)).trans rfl)
theorem as_147 (g : Mem) {i : Int} (x : Int) (h1 : 0 ≤ i) (h2 : i < 4) {A : Type} (n : A) (f : Mem → A) : oK (ast S0 (ov g) 20 147 i x) n f = f (ov (wr g 147 i x)) := ((congrArg (fun o => oK o n f) (ast_pos (a := 147) (n := 4) (K := 20) g x (fun _ => rfl) rfl rfl h1 h2)).trans rfl)
theorem al_148 (g : Mem) {i : Int} (h1 : 0 ≤ i) (h2 : i < 240) {A : Type} (n : A) (f : Int → A) : oK (ald S0 (ov g) 21 148 i) n f = f (rd g 148 i) := ((congrArg (fun o => oK o n f) (ald_pos (a := 148) (n := 240) (K := 21) (ov g) rfl rfl h1 h2)).trans rfl)
theorem as_148 (g : Mem) {i : Int} (x : Int) (h1 : 0 ≤ i) (h2 : i < 240) {A : Type} (n : A) (f : Mem → A) : oK (ast S0 (ov g) 21 148 i x) n f = f (ov (wr g 148 i x)) := ((congrArg (fun o => oK o n f) (ast_pos (a := 148) (n := 240) (K := 21) g x (fun _ => rfl) rfl rfl h1 h2)).trans rfl)
theorem al_149 (g : Mem) {i : Int} (h1 : 0 ≤ i) (h2 : i < 900) {A : Type} (n : A) (f : Int → A) : oK (aldB S0 (ov g) 149 i) n f = f (rd g 149 i) := ((congrArg (fun o => oK o n f) (aldB_pos (a := 149) (n := 900) (ov g) (by decide) rfl rfl h1 h2)).trans rfl)
theorem as_149 (g : Mem) {i : Int} (x : Int) (h1 : 0 ≤ i) (h2 : i < 900) {A : Type} (n : A) (f : Mem → A) : oK (ast S0 (ov g) 22 149 i x) n f = f (ov (wr g 149 i x)) := ((congrArg (fun o => oK o n f) (ast_pos (a := 149) (n := 900) (K := 22) g x (fun _ => rfl) rfl rfl h1 h2)).trans rfl)
theorem al_150 (g : Mem) {i : Int} (h1 : 0 ≤ i) (h2 : i < 900) {A : Type} (n : A) (f : Int → A) : oK (aldB S0 (ov g) 150 i) n f = f (rd g 150 i) := ((congrArg (fun o => oK o n f) (aldB_pos (a := 150) (n := 900) (ov g) (by decide) rfl rfl h1 h2)).trans rfl)
theorem as_150 (g : Mem) {i : Int} (x : Int) (h1 : 0 ≤ i) (h2 : i < 900) {A : Type} (n : A) (f : Mem → A) : oK (ast S0 (ov g) 22 150 i x) n f = f (ov (wr g 150 i x)) := ((congrArg (fun o => oK o n f) (ast_pos (a := 150) (n := 900) (K := 22) g x (fun _ => rfl) rfl rfl h1 h2)).trans rfl)
theorem al_151 (X : Xs) (g : Mem) {i : Int} (h1 : 0 ≤ i) (h2 : i < 3) {A : Type} (n : A) (f : Int → A) : oK (aldI X S0 (ov g) 151 i) n f = f (rd g 151 i) := ((congrArg (fun o => oK o n f) (aldI_pos (a := 151) (n := 3) X (ov g) (by decide) rfl rfl h1 h2)).trans rfl)
theorem as_151 (g : Mem) {i : Int} (x : Int) (h1 : 0 ≤ i) (h2 : i < 3) {A : Type} (n : A) (f : Mem → A) : oK (ast S0 (ov g) 20 151 i x) n f = f (ov (wr g 151 i x)) := ((congrArg (fun o => oK o n f) (ast_pos (a := 151) (n := 3) (K := 20) g x (fun _ => rfl) rfl rfl h1 h2)).trans rfl)
theorem al_152 (X : Xs) (g : Mem) {i : Int} (h1 : 0 ≤ i) (h2 : i < 9) {A : Type} (n : A) (f : Int → A) : oK (aldI X S0 (ov g) 152 i) n f = f (rd g 152 i) := ((congrArg (fun o => oK o n f) (aldI_pos (a := 152) (n := 9) X (ov g) (by decide) rfl rfl h1 h2)).trans rfl)
theorem as_152 (g : Mem) {i : Int} (x : Int) (h1 : 0 ≤ i) (h2 : i < 9) {A : Type} (n : A) (f : Mem → A) : oK (ast S0 (ov g) 20 152 i x) n f = f (ov (wr g 152 i x)) := ((congrArg (fun o => oK o n f) (ast_pos (a := 152) (n := 9) (K := 20) g x (fun _ => rfl) rfl rfl h1 h2)).trans rfl)
theorem al_153 (X : Xs) (g : Mem) {i : Int} (h1 : 0 ≤ i) (h2 : i < 9) {A : Type} (n : A) (f : Int → A) : oK (aldI X S0 (ov g) 153 i) n f = f (rd g 153 i) := ((congrArg (fun o => oK o n f) (aldI_pos (a := 153) (n := 9) X (ov g) (by decide) rfl rfl h1 h2)).trans rfl)
theorem as_153 (g : Mem) {i : Int} (x : Int) (h1 : 0 ≤ i) (h2 : i < 9) {A : Type} (n : A) (f : Mem → A) : oK (ast S0 (ov g) 20 153 i x) n f = f (ov (wr g 153 i x)) := ((congrArg (fun o => oK o n f) (ast_pos (a := 153) (n := 9) (K := 20) g x (fun _ => rfl) rfl rfl h1 h2)).trans rfl)
theorem al_154 (X : Xs) (g : Mem) {i : Int} (h1 : 0 ≤ i) (h2 : i < 9) {A : Type} (n : A) (f : Int → A) : oK (aldI X S0 (ov g) 154 i) n f = f (rd g 154 i) := ((congrArg (fun o => oK o n f) (aldI_pos (a := 154) (n := 9) X (ov g) (by decide) rfl rfl h1 h2)).trans rfl)
theorem as_154 (g : Mem) {i : Int} (x : Int) (h1 : 0 ≤ i) (h2 : i < 9) {A : Type} (n : A) (f : Mem → A) : oK (ast S0 (ov g) 20 154 i x) n f = f (ov (wr g 154 i x)) := ((congrArg (fun o => oK o n f) (ast_pos (a := 154) (n := 9) (K := 20) g x (fun _ => rfl) rfl rfl h1 h2)).trans rfl)
theorem al_155 (X : Xs) (g : Mem) {i : Int} (h1 : 0 ≤ i) (h2 : i < 3) {A : Type} (n : A) (f : Int → A) : oK (aldI X S0 (ov g) 155 i) n f = f (rd g 155 i) := ((congrArg (fun o => oK o n f) (aldI_pos (a := 155) (n := 3) X (ov g) (by decide) rfl rfl h1 h2)).trans rfl)
theorem as_155 (g : Mem) {i : Int} (x : Int) (h1 : 0 ≤ i) (h2 : i < 3) {A : Type} (n : A) (f : Mem → A) : oK (ast S0 (ov g) 20 155 i x) n f = f (ov (wr g 155 i x)) := ((congrArg (fun o => oK o n f) (ast_pos (a := 155) (n := 3) (K := 20) g x (fun _ => rfl) rfl rfl h1 h2)).trans rfl)
theorem al_156 (X : Xs) (g : Mem) {i : Int} (h1 : 0 ≤ i) (h2 : i < 1792) {A : Type} (n : A) (f : Int → A) : oK (aldI X S0 (ov g) 156 i) n f = f (rd g 156 i) := ((congrArg (fun o => oK o n f) (aldI_pos (a := 156) (n := 1792) X (ov g) (by decide) rfl rfl h1 h2)).trans rfl)
theorem as_156 (g : Mem) {i : Int} (x : Int) (h1 : 0 ≤ i) (h2 : i < 1792) {A : Type} (n : A) (f : Mem → A) : oK (ast S0 (ov g) 20 156 i x) n f = f (ov (wr g 156 i x)) := ((congrArg (fun o => oK o n f) (ast_pos (a := 156) (n := 1792) (K := 20) g x (fun _ => rfl) rfl rfl h1 h2)).trans rfl)
theorem al_157 (g : Mem) {i : Int} (h1 : 0 ≤ i) (h2 : i < 13) {A : Type} (n : A) (f : Int → A) : oK (ald S0 (ov g) 21 157 i) n f = f (rd g 157 i) := ((congrArg (fun o => oK o n f) (ald_pos (a := 157) (n := 13) (K := 21) (ov g) rfl rfl h1 h2)).trans rfl)
theorem as_157 (g : Mem) {i : Int} (x : Int) (h1 : 0 ≤ i) (h2 : i < 13) {A : Type} (n : A) (f : Mem → A) : oK (ast S0 (ov g) 21 157 i x) n f = f (ov (wr g 157 i x)) := ((congrArg (fun o => oK o n f) (ast_pos (a := 157) (n := 13) (K := 21) g x (fun _ => rfl) rfl rfl h1 h2)).trans rfl)
theorem al_158 (X : Xs) (g : Mem) {i : Int} (h1 : 0 ≤ i) (h2 : i < 2) {A : Type} (n : A) (f : Int → A) : oK (aldI X S0 (ov g) 158 i) n f = f (rd g 158 i) := ((congrArg (fun o => oK o n f) (aldI_pos (a := 158) (n := 2) X (ov g) (by decide) rfl rfl h1 h2)).trans rfl)
theorem as_158 (g : Mem) {i : Int} (x : Int) (h1 : 0 ≤ i) (h2 : i < 2) {A : Type} (n : A) (f : Mem → A) : oK (ast S0 (ov g) 20 158 i x) n f = f (ov (wr g 158 i x)) := ((congrArg (fun o => oK o n f) (ast_pos (a := 158) (n := 2) (K := 20) g x (fun _ => rfl) rfl rfl h1 h2)).trans rfl)
theorem al_159 (X : Xs) (g : Mem) {i : Int} (h1 : 0 ≤ i) (h2 : i < 64) {A : Type} (n : A) (f : Int → A) : oK (aldI X S0 (ov g) 159 i) n f = f (rd g 159 i) := ((congrArg (fun o => oK o n f) (aldI_pos (a := 159) (n := 64) X (ov g) (by decide) rfl rfl h1 h2)).trans rfl)
theorem as_159 (g : Mem) {i : Int} (x : Int) (h1 : 0 ≤ i) (h2 : i < 64) {A : Type} (n : A) (f : Mem → A) : oK (ast S0 (ov g) 20 159 i x) n f = f (ov (wr g 159 i x)) := ((congrArg (fun o => oK o n f) (ast_pos (a := 159) (n := 64) (K := 20) g x (fun _ => rfl) rfl rfl h1 h2)).trans rfl)
theorem al_160 (X : Xs) (g : Mem) {i : Int} (h1 : 0 ≤ i) (h2 : i < 80) {A : Type} (n : A) (f : Int → A) : oK (aldI X S0 (ov g) 160 i) n f = f (rd g 160 i) := ((congrArg (fun o => oK o n f) (aldI_pos (a := 160) (n := 80) X (ov g) (by decide) rfl rfl h1 h2)).trans rfl)
theorem as_160 (g : Mem) {i : Int} (x : Int) (h1 : 0 ≤ i) (h2 : i < 80) {A : Type} (n : A) (f : Mem → A) : oK (ast S0 (ov g) 20 160 i x) n f = f (ov (wr g 160 i x)) := ((congrArg (fun o => oK o n f) (ast_pos (a := 160) (n := 80) (K := 20) g x (fun _ => rfl) rfl rfl h1 h2)).trans rfl)
theorem al_161 (X : Xs) (g : Mem) {i : Int} (h1 : 0 ≤ i) (h2 : i < 5) {A : Type} (n : A) (f : Int → A) : oK (aldI X S0 (ov g) 161 i) n f = f (rd g 161 i) := ((congrArg (fun o => oK o n f) (aldI_pos (a := 161) (n := 5) X (ov g) (by decide) rfl rfl h1 h2)).trans rfl)
theorem as_161 (g : Mem) {i : Int} (x : Int) (h1 : 0 ≤ i) (h2 : i < 5) {A : Type} (n : A) (f : Mem → A) : oK (ast S0 (ov g) 20 161 i x) n f = f (ov (wr g 161 i x)) := ((congrArg (fun o => oK o n f) (ast_pos (a := 161) (n := 5) (K := 20) g x (fun _ => rfl) rfl rfl h1 h2)).trans rfl)
theorem al_162 (X : Xs) (g : Mem) {i : Int} (h1 : 0 ≤ i) (h2 : i < 5) {A : Type} (n : A) (f : Int → A) : oK (aldI X S0 (ov g) 162 i) n f = f (rd g 162 i) := ((congrArg (fun o => oK o n f) (aldI_pos (a := 162) (n := 5) X (ov g) (by decide) rfl rfl h1 h2)).trans rfl)
theorem as_162 (g : Mem) {i : Int} (x : Int) (h1 : 0 ≤ i) (h2 : i < 5) {A : Type} (n : A) (f : Mem → A) : oK (ast S0 (ov g) 20 162 i x) n f = f (ov (wr g 162 i x)) := ((congrArg (fun o => oK o n f) (ast_pos (a := 162) (n := 5) (K := 20) g x (fun _ => rfl) rfl rfl h1 h2)).trans rfl)
theorem al_D1 (X : Xs) {b : Int} (hb : isD b) (g : Mem) {i : Int} (h1 : 0 ≤ i) (h2 : i < 4) {A : Type} (n : A) (f : Int → A) : oK (aldI X S0 (ov g) (b + 1) i) n f = f (rd g (b + 1) i) := by
  rcases hb with rfl | rfl | rfl | rfl | rfl
  · exact ((congrArg (fun o => oK o n f) (aldI_pos (a := 20) (n := 4) X (ov g) (by decide) rfl rfl h1 h2)).trans rfl)
  · exact ((congrArg (fun o => oK o n f) (aldI_pos (a := 41) (n := 4) X (ov g) (by decide) rfl rfl h1 h2)).trans rfl)
  · exact ((congrArg (fun o => oK o n f) (aldI_pos (a := 63) (n := 4) X (ov g) (by decide) rfl rfl h1 h2)).trans rfl)
  · exact ((congrArg (fun o => oK o n f) (aldI_pos (a := 84) (n := 4) X (ov g) (by decide) rfl rfl h1 h2)).trans rfl)
  · exact ((congrArg (fun o => oK o n f) (aldI_pos (a := 105) (n := 4) X (ov g) (by decide) rfl rfl h1 h2)).trans rfl)
theorem as_D1 {b : Int} (hb : isD b) (g : Mem) {i : Int} (x : Int) (h1 : 0 ≤ i) (h2 : i < 4) {A : Type} (n : A) (f : Mem → A) : oK (ast S0 (ov g) 20 (b + 1) i x) n f = f (ov (wr g (b + 1) i x)) := by
  rcases hb with rfl | rfl | rfl | rfl | rfl
  · exact ((congrArg (fun o => oK o n f) (ast_pos (a := 20) (n := 4) (K := 20) g x (fun _ => rfl) rfl rfl h1 h2)).trans rfl)
  · exact ((congrArg (fun o => oK o n f) (ast_pos (a := 41) (n := 4) (K := 20) g x (fun _ => rfl) rfl rfl h1 h2)).trans rfl)
  · exact ((congrArg (fun o => oK o n f) (ast_pos (a := 63) (n := 4) (K := 20) g x (fun _ => rfl) rfl rfl h1 h2)).trans rfl)
  · exact ((congrArg (fun o => oK o n f) (ast_pos (a := 84) (n := 4) (K := 20) g x (fun _ => rfl) rfl rfl h1 h2)).trans rfl)
  · exact ((congrArg (fun o => oK o n f) (ast_pos (a := 105) (n := 4) (K := 20) g x (fun _ => rfl) rfl rfl h1 h2)).trans rfl)
theorem al_D2 (X : Xs) {b : Int} (hb : isD b) (g : Mem) {i : Int} (h1 : 0 ≤ i) (h2 : i < 8) {A : Type} (n : A) (f : Int → A) : oK (aldI X S0 (ov g) (b + 2) i) n f = f (rd g (b + 2) i) := by
  rcases hb with rfl | rfl | rfl | rfl | rfl
  · exact ((congrArg (fun o => oK o n f) (aldI_pos (a := 21) (n := 8) X (ov g) (by decide) rfl rfl h1 h2)).trans rfl)
  · exact ((congrArg (fun o => oK o n f) (aldI_pos (a := 42) (n := 8) X (ov g) (by decide) rfl rfl h1 h2)).trans rfl)
  · exact ((congrArg (fun o => oK o n f) (aldI_pos (a := 64) (n := 8) X (ov g) (by decide) rfl rfl h1 h2)).trans rfl)
  · exact ((congrArg (fun o => oK o n f) (aldI_pos (a := 85) (n := 8) X (ov g) (by decide) rfl rfl h1 h2)).trans rfl)
  · exact ((congrArg (fun o => oK o n f) (aldI_pos (a := 106) (n := 8) X (ov g) (by decide) rfl rfl h1 h2)).trans rfl)
theorem as_D2 {b : Int} (hb : isD b) (g : Mem) {i : Int} (x : Int) (h1 : 0 ≤ i) (h2 : i < 8) {A : Type} (n : A) (f : Mem → A) : oK (ast S0 (ov g) 20 (b + 2) i x) n f = f (ov (wr g (b + 2) i x)) := by
  rcases hb with rfl | rfl | rfl | rfl | rfl
  · exact ((congrArg (fun o => oK o n f) (ast_pos (a := 21) (n := 8) (K := 20) g x (fun _ => rfl) rfl rfl h1 h2)).trans rfl)
  · exact ((congrArg (fun o => oK o n f) (ast_pos (a := 42) (n := 8) (K := 20) g x (fun _ => rfl) rfl rfl h1 h2)).trans rfl)
  · exact ((congrArg (fun o => oK o n f) (ast_pos (a := 64) (n := 8) (K := 20) g x (fun _ => rfl) rfl rfl h1 h2)).trans rfl)
  · exact ((congrArg (fun o => oK o n f) (ast_pos (a := 85) (n := 8) (K := 20) g x (fun _ => rfl) rfl rfl h1 h2)).trans rfl)
  · exact ((congrArg (fun o => oK o n f) (ast_pos (a := 106) (n := 8) (K := 20) g x (fun _ => rfl) rfl rfl h1 h2)).trans rfl)
theorem al_D3 (X : Xs) {b : Int} (hb : isD b) (g : Mem) {i : Int} (h1 : 0 ≤ i) (h2 : i < 8) {A : Type} (n : A) (f : Int → A) : oK (aldI X S0 (ov g) (b + 3) i) n f = f (rd g (b + 3) i) := by
  rcases hb with rfl | rfl | rfl | rfl | rfl
  · exact ((congrArg (fun o => oK o n f) (aldI_pos (a := 22) (n := 8) X (ov g) (by decide) rfl rfl h1 h2)).trans rfl)
  · exact ((congrArg (fun o => oK o n f) (aldI_pos (a := 43) (n := 8) X (ov g) (by decide) rfl rfl h1 h2)).trans rfl)
  · exact ((congrArg (fun o => oK o n f) (aldI_pos (a := 65) (n := 8) X (ov g) (by decide) rfl rfl h1 h2)).trans rfl)
  · exact ((congrArg (fun o => oK o n f) (aldI_pos (a := 86) (n := 8) X (ov g) (by decide) rfl rfl h1 h2)).trans rfl)
  · exact ((congrArg (fun o => oK o n f) (aldI_pos (a := 107) (n := 8) X (ov g) (by decide) rfl rfl h1 h2)).trans rfl)
theorem as_D3 {b : Int} (hb : isD b) (g : Mem) {i : Int} (x : Int) (h1 : 0 ≤ i) (h2 : i < 8) {A : Type} (n : A) (f : Mem → A) : oK (ast S0 (ov g) 20 (b + 3) i x) n f = f (ov (wr g (b + 3) i x)) := by
  rcases hb with rfl | rfl | rfl | rfl | rfl
  · exact ((congrArg (fun o => oK o n f) (ast_pos (a := 22) (n := 8) (K := 20) g x (fun _ => rfl) rfl rfl h1 h2)).trans rfl)
  · exact ((congrArg (fun o => oK o n f) (ast_pos (a := 43) (n := 8) (K := 20) g x (fun _ => rfl) rfl rfl h1 h2)).trans rfl)
  · exact ((congrArg (fun o => oK o n f) (ast_pos (a := 65) (n := 8) (K := 20) g x (fun _ => rfl) rfl rfl h1 h2)).trans rfl)
  · exact ((congrArg (fun o => oK o n f) (ast_pos (a := 86) (n := 8) (K := 20) g x (fun _ => rfl) rfl rfl h1 h2)).trans rfl)
  · exact ((congrArg (fun o => oK o n f) (ast_pos (a := 107) (n := 8) (K := 20) g x (fun _ => rfl) rfl rfl h1 h2)).trans rfl)
theorem al_D4 (X : Xs) {b : Int} (hb : isD b) (g : Mem) {i : Int} (h1 : 0 ≤ i) (h2 : i < 8) {A : Type} (n : A) (f : Int → A) : oK (aldI X S0 (ov g) (b + 4) i) n f = f (rd g (b + 4) i) := by
  rcases hb with rfl | rfl | rfl | rfl | rfl
  · exact ((congrArg (fun o => oK o n f) (aldI_pos (a := 23) (n := 8) X (ov g) (by decide) rfl rfl h1 h2)).trans rfl)
  · exact ((congrArg (fun o => oK o n f) (aldI_pos (a := 44) (n := 8) X (ov g) (by decide) rfl rfl h1 h2)).trans rfl)
  · exact ((congrArg (fun o => oK o n f) (aldI_pos (a := 66) (n := 8) X (ov g) (by decide) rfl rfl h1 h2)).trans rfl)
  · exact ((congrArg (fun o => oK o n f) (aldI_pos (a := 87) (n := 8) X (ov g) (by decide) rfl rfl h1 h2)).trans rfl)
  · exact ((congrArg (fun o => oK o n f) (aldI_pos (a := 108) (n := 8) X (ov g) (by decide) rfl rfl h1 h2)).trans rfl)
theorem as_D4 {b : Int} (hb : isD b) (g : Mem) {i : Int} (x : Int) (h1 : 0 ≤ i) (h2 : i < 8) {A : Type} (n : A) (f : Mem → A) : oK (ast S0 (ov g) 20 (b + 4) i x) n f = f (ov (wr g (b + 4) i x)) := by
  rcases hb with rfl | rfl | rfl | rfl | rfl
  · exact ((congrArg (fun o => oK o n f) (ast_pos (a := 23) (n := 8) (K := 20) g x (fun _ => rfl) rfl rfl h1 h2)).trans rfl)
  · exact ((congrArg (fun o => oK o n f) (ast_pos (a := 44) (n := 8) (K := 20) g x (fun _ => rfl) rfl rfl h1 h2)).trans rfl)
  · exact ((congrArg (fun o => oK o n f) (ast_pos (a := 66) (n := 8) (K := 20) g x (fun _ => rfl) rfl rfl h1 h2)).trans rfl)
  · exact ((congrArg (fun o => oK o n f) (ast_pos (a := 87) (n := 8) (K := 20) g x (fun _ => rfl) rfl rfl h1 h2)).trans rfl)
  · exact ((congrArg (fun o => oK o n f) (ast_pos (a := 108) (n := 8) (K := 20) g x (fun _ => rfl) rfl rfl h1 h2)).trans rfl)
theorem al_D5 (X : Xs) {b : Int} (hb : isD b) (g : Mem) {i : Int} (h1 : 0 ≤ i) (h2 : i < 8) {A : Type} (n : A) (f : Int → A) : oK (aldI X S0 (ov g) (b + 5) i) n f = f (rd g (b + 5) i) := by
  rcases hb with rfl | rfl | rfl | rfl | rfl
  · exact ((congrArg (fun o => oK o n f) (aldI_pos (a := 24) (n := 8) X (ov g) (by decide) rfl rfl h1 h2)).trans rfl)
  · exact ((congrArg (fun o => oK o n f) (aldI_pos (a := 45) (n := 8) X (ov g) (by decide) rfl rfl h1 h2)).trans rfl)
  · exact ((congrArg (fun o => oK o n f) (aldI_pos (a := 67) (n := 8) X (ov g) (by decide) rfl rfl h1 h2)).trans rfl)
  · exact ((congrArg (fun o => oK o n f) (aldI_pos (a := 88) (n := 8) X (ov g) (by decide) rfl rfl h1 h2)).trans rfl)
  · exact ((congrArg (fun o => oK o n f) (aldI_pos (a := 109) (n := 8) X (ov g) (by decide) rfl rfl h1 h2)).trans rfl)
theorem as_D5 {b : Int} (hb : isD b) (g : Mem) {i : Int} (x : Int) (h1 : 0 ≤ i) (h2 : i < 8) {A : Type} (n : A) (f : Mem → A) : oK (ast S0 (ov g) 20 (b + 5) i x) n f = f (ov (wr g (b + 5) i x)) := by
  rcases hb with rfl | rfl | rfl | rfl | rfl
  · exact ((congrArg (fun o => oK o n f) (ast_pos (a := 24) (n := 8) (K := 20) g x (fun _ => rfl) rfl rfl h1 h2)).trans rfl)
  · exact ((congrArg (fun o => oK o n f) (ast_pos (a := 45) (n := 8) (K := 20) g x (fun _ => rfl) rfl rfl h1 h2)).trans rfl)
  · exact ((congrArg (fun o => oK o n f) (ast_pos (a := 67) (n := 8) (K := 20) g x (fun _ => rfl) rfl rfl h1 h2)).trans rfl)
  · exact ((congrArg (fun o => oK o n f) (ast_pos (a := 88) (n := 8) (K := 20) g x (fun _ => rfl) rfl rfl h1 h2)).trans rfl)
  · exact ((congrArg (fun o => oK o n f) (ast_pos (a := 109) (n := 8) (K := 20) g x (fun _ => rfl) rfl rfl h1 h2)).trans rfl)
theorem al_D6 (X : Xs) {b : Int} (hb : isD b) (g : Mem) {i : Int} (h1 : 0 ≤ i) (h2 : i < 6) {A : Type} (n : A) (f : Int → A) : oK (aldI X S0 (ov g) (b + 6) i) n f = f (rd g (b + 6) i) := by
  rcases hb with rfl | rfl | rfl | rfl | rfl
  · exact ((congrArg (fun o => oK o n f) (aldI_pos (a := 25) (n := 6) X (ov g) (by decide) rfl rfl h1 h2)).trans rfl)
  · exact ((congrArg (fun o => oK o n f) (aldI_pos (a := 46) (n := 6) X (ov g) (by decide) rfl rfl h1 h2)).trans rfl)
  · exact ((congrArg (fun o => oK o n f) (aldI_pos (a := 68) (n := 6) X (ov g) (by decide) rfl rfl h1 h2)).trans rfl)
  · exact ((congrArg (fun o => oK o n f) (aldI_pos (a := 89) (n := 6) X (ov g) (by decide) rfl rfl h1 h2)).trans rfl)
  · exact ((congrArg (fun o => oK o n f) (aldI_pos (a := 110) (n := 6) X (ov g) (by decide) rfl rfl h1 h2)).trans rfl)
theorem as_D6 {b : Int} (hb : isD b) (g : Mem) {i : Int} (x : Int) (h1 : 0 ≤ i) (h2 : i < 6) {A : Type} (n : A) (f : Mem → A) : oK (ast S0 (ov g) 20 (b + 6) i x) n f = f (ov (wr g (b + 6) i x)) := by
  rcases hb with rfl | rfl | rfl | rfl | rfl
  · exact ((congrArg (fun o => oK o n f) (ast_pos (a := 25) (n := 6) (K := 20) g x (fun _ => rfl) rfl rfl h1 h2)).trans rfl)
  · exact ((congrArg (fun o => oK o n f) (ast_pos (a := 46) (n := 6) (K := 20) g x (fun _ => rfl) rfl rfl h1 h2)).trans rfl)
  · exact ((congrArg (fun o => oK o n f) (ast_pos (a := 68) (n := 6) (K := 20) g x (fun _ => rfl) rfl rfl h1 h2)).trans rfl)
  · exact ((congrArg (fun o => oK o n f) (ast_pos (a := 89) (n := 6) (K := 20) g x (fun _ => rfl) rfl rfl h1 h2)).trans rfl)
  · exact ((congrArg (fun o => oK o n f) (ast_pos (a := 110) (n := 6) (K := 20) g x (fun _ => rfl) rfl rfl h1 h2)).trans rfl)
theorem al_D7 (X : Xs) {b : Int} (hb : isD b) (g : Mem) {i : Int} (h1 : 0 ≤ i) (h2 : i < 6) {A : Type} (n : A) (f : Int → A) : oK (aldI X S0 (ov g) (b + 7) i) n f = f (rd g (b + 7) i) := by
  rcases hb with rfl | rfl | rfl | rfl | rfl
  · exact ((congrArg (fun o => oK o n f) (aldI_pos (a := 26) (n := 6) X (ov g) (by decide) rfl rfl h1 h2)).trans rfl)
  · exact ((congrArg (fun o => oK o n f) (aldI_pos (a := 47) (n := 6) X (ov g) (by decide) rfl rfl h1 h2)).trans rfl)
  · exact ((congrArg (fun o => oK o n f) (aldI_pos (a := 69) (n := 6) X (ov g) (by decide) rfl rfl h1 h2)).trans rfl)
  · exact ((congrArg (fun o => oK o n f) (aldI_pos (a := 90) (n := 6) X (ov g) (by decide) rfl rfl h1 h2)).trans rfl)
  · exact ((congrArg (fun o => oK o n f) (aldI_pos (a := 111) (n := 6) X (ov g) (by decide) rfl rfl h1 h2)).trans rfl)
theorem as_D7 {b : Int} (hb : isD b) (g : Mem) {i : Int} (x : Int) (h1 : 0 ≤ i) (h2 : i < 6) {A : Type} (n : A) (f : Mem → A) : oK (ast S0 (ov g) 20 (b + 7) i x) n f = f (ov (wr g (b + 7) i x)) := by
  rcases hb with rfl | rfl | rfl | rfl | rfl
  · exact ((congrArg (fun o => oK o n f) (ast_pos (a := 26) (n := 6) (K := 20) g x (fun _ => rfl) rfl rfl h1 h2)).trans rfl)
  · exact ((congrArg (fun o => oK o n f) (ast_pos (a := 47) (n := 6) (K := 20) g x (fun _ => rfl) rfl rfl h1 h2)).trans rfl)
  · exact ((congrArg (fun o => oK o n f) (ast_pos (a := 69) (n := 6) (K := 20) g x (fun _ => rfl) rfl rfl h1 h2)).trans rfl)
  · exact ((congrArg (fun o => oK o n f) (ast_pos (a := 90) (n := 6) (K := 20) g x (fun _ => rfl) rfl rfl h1 h2)).trans rfl)
  · exact ((congrArg (fun o => oK o n f) (ast_pos (a := 111) (n := 6) (K := 20) g x (fun _ => rfl) rfl rfl h1 h2)).trans rfl)
theorem al_D8 (X : Xs) {b : Int} (hb : isD b) (g : Mem) {i : Int} (h1 : 0 ≤ i) (h2 : i < 6) {A : Type} (n : A) (f : Int → A) : oK (aldI X S0 (ov g) (b + 8) i) n f = f (rd g (b + 8) i) := by
  rcases hb with rfl | rfl | rfl | rfl | rfl
  · exact ((congrArg (fun o => oK o n f) (aldI_pos (a := 27) (n := 6) X (ov g) (by decide) rfl rfl h1 h2)).trans rfl)
  · exact ((congrArg (fun o => oK o n f) (aldI_pos (a := 48) (n := 6) X (ov g) (by decide) rfl rfl h1 h2)).trans rfl)
  · exact ((congrArg (fun o => oK o n f) (aldI_pos (a := 70) (n := 6) X (ov g) (by decide) rfl rfl h1 h2)).trans rfl)
  · exact ((congrArg (fun o => oK o n f) (aldI_pos (a := 91) (n := 6) X (ov g) (by decide) rfl rfl h1 h2)).trans rfl)
  · exact ((congrArg (fun o => oK o n f) (aldI_pos (a := 112) (n := 6) X (ov g) (by decide) rfl rfl h1 h2)).trans rfl)
theorem as_D8 {b : Int} (hb : isD b) (g : Mem) {i : Int} (x : Int) (h1 : 0 ≤ i) (h2 : i < 6) {A : Type} (n : A) (f : Mem → A) : oK (ast S0 (ov g) 20 (b + 8) i x) n f = f (ov (wr g (b + 8) i x)) := by
  rcases hb with rfl | rfl | rfl | rfl | rfl
  · exact ((congrArg (fun o => oK o n f) (ast_pos (a := 27) (n := 6) (K := 20) g x (fun _ => rfl) rfl rfl h1 h2)).trans rfl)
  · exact ((congrArg (fun o => oK o n f) (ast_pos (a := 48) (n := 6) (K := 20) g x (fun _ => rfl) rfl rfl h1 h2)).trans rfl)
  · exact ((congrArg (fun o => oK o n f) (ast_pos (a := 70) (n := 6) (K := 20) g x (fun _ => rfl) rfl rfl h1 h2)).trans rfl)
  · exact ((congrArg (fun o => oK o n f) (ast_pos (a := 91) (n := 6) (K := 20) g x (fun _ => rfl) rfl rfl h1 h2)).trans rfl)
  · exact ((congrArg (fun o => oK o n f) (ast_pos (a := 112) (n := 6) (K := 20) g x (fun _ => rfl) rfl rfl h1 h2)).trans rfl)
theorem al_D9 (X : Xs) {b : Int} (hb : isD b) (g : Mem) {i : Int} (h1 : 0 ≤ i) (h2 : i < 6) {A : Type} (n : A) (f : Int → A) : oK (aldI X S0 (ov g) (b + 9) i) n f = f (rd g (b + 9) i) := by
  rcases hb with rfl | rfl | rfl | rfl | rfl
  · exact ((congrArg (fun o => oK o n f) (aldI_pos (a := 28) (n := 6) X (ov g) (by decide) rfl rfl h1 h2)).trans rfl)
  · exact ((congrArg (fun o => oK o n f) (aldI_pos (a := 49) (n := 6) X (ov g) (by decide) rfl rfl h1 h2)).trans rfl)
  · exact ((congrArg (fun o => oK o n f) (aldI_pos (a := 71) (n := 6) X (ov g) (by decide) rfl rfl h1 h2)).trans rfl)
  · exact ((congrArg (fun o => oK o n f) (aldI_pos (a := 92) (n := 6) X (ov g) (by decide) rfl rfl h1 h2)).trans rfl)
  · exact ((congrArg (fun o => oK o n f) (aldI_pos (a := 113) (n := 6) X (ov g) (by decide) rfl rfl h1 h2)).trans rfl)
theorem as_D9 {b : Int} (hb : isD b) (g : Mem) {i : Int} (x : Int) (h1 : 0 ≤ i) (h2 : i < 6) {A : Type} (n : A) (f : Mem → A) : oK (ast S0 (ov g) 20 (b + 9) i x) n f = f (ov (wr g (b + 9) i x)) := by
  rcases hb with rfl | rfl | rfl | rfl | rfl
  · exact ((congrArg (fun o => oK o n f) (ast_pos (a := 28) (n := 6) (K := 20) g x (fun _ => rfl) rfl rfl h1 h2)).trans rfl)
  · exact ((congrArg (fun o => oK o n f) (ast_pos (a := 49) (n := 6) (K := 20) g x (fun _ => rfl) rfl rfl h1 h2)).trans rfl)
  · exact ((congrArg (fun o => oK o n f) (ast_pos (a := 71) (n := 6) (K := 20) g x (fun _ => rfl) rfl rfl h1 h2)).trans rfl)
  · exact ((congrArg (fun o => oK o n f) (ast_pos (a := 92) (n := 6) (K := 20) g x (fun _ => rfl) rfl rfl h1 h2)).trans rfl)
  · exact ((congrArg (fun o => oK o n f) (ast_pos (a := 113) (n := 6) (K := 20) g x (fun _ => rfl) rfl rfl h1 h2)).trans rfl)
theorem al_D10 (X : Xs) {b : Int} (hb : isD b) (g : Mem) {i : Int} (h1 : 0 ≤ i) (h2 : i < 36) {A : Type} (n : A) (f : Int → A) : oK (aldI X S0 (ov g) (b + 10) i) n f = f (rd g (b + 10) i) := by
  rcases hb with rfl | rfl | rfl | rfl | rfl
  · exact ((congrArg (fun o => oK o n f) (aldI_pos (a := 29) (n := 36) X (ov g) (by decide) rfl rfl h1 h2)).trans rfl)
  · exact ((congrArg (fun o => oK o n f) (aldI_pos (a := 50) (n := 36) X (ov g) (by decide) rfl rfl h1 h2)).trans rfl)
  · exact ((congrArg (fun o => oK o n f) (aldI_pos (a := 72) (n := 36) X (ov g) (by decide) rfl rfl h1 h2)).trans rfl)
  · exact ((congrArg (fun o => oK o n f) (aldI_pos (a := 93) (n := 36) X (ov g) (by decide) rfl rfl h1 h2)).trans rfl)
  · exact ((congrArg (fun o => oK o n f) (aldI_pos (a := 114) (n := 36) X (ov g) (by decide) rfl rfl h1 h2)).trans rfl)
theorem as_D10 {b : Int} (hb : isD b) (g : Mem) {i : Int} (x : Int) (h1 : 0 ≤ i) (h2 : i < 36) {A : Type} (n : A) (f : Mem → A) : oK (ast S0 (ov g) 20 (b + 10) i x) n f = f (ov (wr g (b + 10) i x)) := by
  rcases hb with rfl | rfl | rfl | rfl | rfl
  · exact ((congrArg (fun o => oK o n f) (ast_pos (a := 29) (n := 36) (K := 20) g x (fun _ => rfl) rfl rfl h1 h2)).trans rfl)
  · exact ((congrArg (fun o => oK o n f) (ast_pos (a := 50) (n := 36) (K := 20) g x (fun _ => rfl) rfl rfl h1 h2)).trans rfl)
  · exact ((congrArg (fun o => oK o n f) (ast_pos (a := 72) (n := 36) (K := 20) g x (fun _ => rfl) rfl rfl h1 h2)).trans rfl)
  · exact ((congrArg (fun o => oK o n f) (ast_pos (a := 93) (n := 36) (K := 20) g x (fun _ => rfl) rfl rfl h1 h2)).trans rfl)
  · exact ((congrArg (fun o => oK o n f) (ast_pos (a := 114) (n := 36) (K := 20) g x (fun _ => rfl) rfl rfl h1 h2)).trans rfl)
theorem al_D11 {b : Int} (hb : isD b) (g : Mem) {i : Int} (h1 : 0 ≤ i) (h2 : i < 8) {A : Type} (n : A) (f : Int → A) : oK (ald S0 (ov g) 21 (b + 11) i) n f = f (rd g (b + 11) i) := by
  rcases hb with rfl | rfl | rfl | rfl | rfl
  · exact ((congrArg (fun o => oK o n f) (ald_pos (a := 30) (n := 8) (K := 21) (ov g) rfl rfl h1 h2)).trans rfl)
  · exact ((congrArg (fun o => oK o n f) (ald_pos (a := 51) (n := 8) (K := 21) (ov g) rfl rfl h1 h2)).trans rfl)
  · exact ((congrArg (fun o => oK o n f) (ald_pos (a := 73) (n := 8) (K := 21) (ov g) rfl rfl h1 h2)).trans rfl)
  · exact ((congrArg (fun o => oK o n f) (ald_pos (a := 94) (n := 8) (K := 21) (ov g) rfl rfl h1 h2)).trans rfl)
  · exact ((congrArg (fun o => oK o n f) (ald_pos (a := 115) (n := 8) (K := 21) (ov g) rfl rfl h1 h2)).trans rfl)
theorem as_D11 {b : Int} (hb : isD b) (g : Mem) {i : Int} (x : Int) (h1 : 0 ≤ i) (h2 : i < 8) {A : Type} (n : A) (f : Mem → A) : oK (ast S0 (ov g) 21 (b + 11) i x) n f = f (ov (wr g (b + 11) i x)) := by
  rcases hb with rfl | rfl | rfl | rfl | rfl
  · exact ((congrArg (fun o => oK o n f) (ast_pos (a := 30) (n := 8) (K := 21) g x (fun _ => rfl) rfl rfl h1 h2)).trans rfl)
  · exact ((congrArg (fun o => oK o n f) (ast_pos (a := 51) (n := 8) (K := 21) g x (fun _ => rfl) rfl rfl h1 h2)).trans rfl)
  · exact ((congrArg (fun o => oK o n f) (ast_pos (a := 73) (n := 8) (K := 21) g x (fun _ => rfl) rfl rfl h1 h2)).trans rfl)
  · exact ((congrArg (fun o => oK o n f) (ast_pos (a := 94) (n := 8) (K := 21) g x (fun _ => rfl) rfl rfl h1 h2)).trans rfl)
  · exact ((congrArg (fun o => oK o n f) (ast_pos (a := 115) (n := 8) (K := 21) g x (fun _ => rfl) rfl rfl h1 h2)).trans rfl)
theorem al_D12 {b : Int} (hb : isD b) (g : Mem) {i : Int} (h1 : 0 ≤ i) (h2 : i < 6) {A : Type} (n : A) (f : Int → A) : oK (ald S0 (ov g) 21 (b + 12) i) n f = f (rd g (b + 12) i) := by
  rcases hb with rfl | rfl | rfl | rfl | rfl
  · exact ((congrArg (fun o => oK o n f) (ald_pos (a := 31) (n := 6) (K := 21) (ov g) rfl rfl h1 h2)).trans rfl)
  · exact ((congrArg (fun o => oK o n f) (ald_pos (a := 52) (n := 6) (K := 21) (ov g) rfl rfl h1 h2)).trans rfl)
  · exact ((congrArg (fun o => oK o n f) (ald_pos (a := 74) (n := 6) (K := 21) (ov g) rfl rfl h1 h2)).trans rfl)
  · exact ((congrArg (fun o => oK o n f) (ald_pos (a := 95) (n := 6) (K := 21) (ov g) rfl rfl h1 h2)).trans rfl)
  · exact ((congrArg (fun o => oK o n f) (ald_pos (a := 116) (n := 6) (K := 21) (ov g) rfl rfl h1 h2)).trans rfl)
theorem as_D12 {b : Int} (hb : isD b) (g : Mem) {i : Int} (x : Int) (h1 : 0 ≤ i) (h2 : i < 6) {A : Type} (n : A) (f : Mem → A) : oK (ast S0 (ov g) 21 (b + 12) i x) n f = f (ov (wr g (b + 12) i x)) := by
  rcases hb with rfl | rfl | rfl | rfl | rfl
  · exact ((congrArg (fun o => oK o n f) (ast_pos (a := 31) (n := 6) (K := 21) g x (fun _ => rfl) rfl rfl h1 h2)).trans rfl)
  · exact ((congrArg (fun o => oK o n f) (ast_pos (a := 52) (n := 6) (K := 21) g x (fun _ => rfl) rfl rfl h1 h2)).trans rfl)
  · exact ((congrArg (fun o => oK o n f) (ast_pos (a := 74) (n := 6) (K := 21) g x (fun _ => rfl) rfl rfl h1 h2)).trans rfl)
  · exact ((congrArg (fun o => oK o n f) (ast_pos (a := 95) (n := 6) (K := 21) g x (fun _ => rfl) rfl rfl h1 h2)).trans rfl)
  · exact ((congrArg (fun o => oK o n f) (ast_pos (a := 116) (n := 6) (K := 21) g x (fun _ => rfl) rfl rfl h1 h2)).trans rfl)
theorem al_D14 (X : Xs) {b : Int} (hb : isD b) (g : Mem) {i : Int} (h1 : 0 ≤ i) (h2 : i < 30) {A : Type} (n : A) (f : Int → A) : oK (aldI X S0 (ov g) (b + 14) i) n f = f (rd g (b + 14) i) := by
  rcases hb with rfl | rfl | rfl | rfl | rfl
  · exact ((congrArg (fun o => oK o n f) (aldI_pos (a := 33) (n := 30) X (ov g) (by decide) rfl rfl h1 h2)).trans rfl)
  · exact ((congrArg (fun o => oK o n f) (aldI_pos (a := 54) (n := 30) X (ov g) (by decide) rfl rfl h1 h2)).trans rfl)
  · exact ((congrArg (fun o => oK o n f) (aldI_pos (a := 76) (n := 30) X (ov g) (by decide) rfl rfl h1 h2)).trans rfl)
  · exact ((congrArg (fun o => oK o n f) (aldI_pos (a := 97) (n := 30) X (ov g) (by decide) rfl rfl h1 h2)).trans rfl)
  · exact ((congrArg (fun o => oK o n f) (aldI_pos (a := 118) (n := 30) X (ov g) (by decide) rfl rfl h1 h2)).trans rfl)
theorem as_D14 {b : Int} (hb : isD b) (g : Mem) {i : Int} (x : Int) (h1 : 0 ≤ i) (h2 : i < 30) {A : Type} (n : A) (f : Mem → A) : oK (ast S0 (ov g) 20 (b + 14) i x) n f = f (ov (wr g (b + 14) i x)) := by
  rcases hb with rfl | rfl | rfl | rfl | rfl
  · exact ((congrArg (fun o => oK o n f) (ast_pos (a := 33) (n := 30) (K := 20) g x (fun _ => rfl) rfl rfl h1 h2)).trans rfl)
  · exact ((congrArg (fun o => oK o n f) (ast_pos (a := 54) (n := 30) (K := 20) g x (fun _ => rfl) rfl rfl h1 h2)).trans rfl)
  · exact ((congrArg (fun o => oK o n f) (ast_pos (a := 76) (n := 30) (K := 20) g x (fun _ => rfl) rfl rfl h1 h2)).trans rfl)
  · exact ((congrArg (fun o => oK o n f) (ast_pos (a := 97) (n := 30) (K := 20) g x (fun _ => rfl) rfl rfl h1 h2)).trans rfl)
  · exact ((congrArg (fun o => oK o n f) (ast_pos (a := 118) (n := 30) (K := 20) g x (fun _ => rfl) rfl rfl h1 h2)).trans rfl)
theorem al_D15 (X : Xs) {b : Int} (hb : isD b) (g : Mem) {i : Int} (h1 : 0 ≤ i) (h2 : i < 30) {A : Type} (n : A) (f : Int → A) : oK (aldI X S0 (ov g) (b + 15) i) n f = f (rd g (b + 15) i) := by
  rcases hb with rfl | rfl | rfl | rfl | rfl
  · exact ((congrArg (fun o => oK o n f) (aldI_pos (a := 34) (n := 30) X (ov g) (by decide) rfl rfl h1 h2)).trans rfl)
  · exact ((congrArg (fun o => oK o n f) (aldI_pos (a := 55) (n := 30) X (ov g) (by decide) rfl rfl h1 h2)).trans rfl)
  · exact ((congrArg (fun o => oK o n f) (aldI_pos (a := 77) (n := 30) X (ov g) (by decide) rfl rfl h1 h2)).trans rfl)
  · exact ((congrArg (fun o => oK o n f) (aldI_pos (a := 98) (n := 30) X (ov g) (by decide) rfl rfl h1 h2)).trans rfl)
  · exact ((congrArg (fun o => oK o n f) (aldI_pos (a := 119) (n := 30) X (ov g) (by decide) rfl rfl h1 h2)).trans rfl)
theorem as_D15 {b : Int} (hb : isD b) (g : Mem) {i : Int} (x : Int) (h1 : 0 ≤ i) (h2 : i < 30) {A : Type} (n : A) (f : Mem → A) : oK (ast S0 (ov g) 20 (b + 15) i x) n f = f (ov (wr g (b + 15) i x)) := by
  rcases hb with rfl | rfl | rfl | rfl | rfl
  · exact ((congrArg (fun o => oK o n f) (ast_pos (a := 34) (n := 30) (K := 20) g x (fun _ => rfl) rfl rfl h1 h2)).trans rfl)
  · exact ((congrArg (fun o => oK o n f) (ast_pos (a := 55) (n := 30) (K := 20) g x (fun _ => rfl) rfl rfl h1 h2)).trans rfl)
  · exact ((congrArg (fun o => oK o n f) (ast_pos (a := 77) (n := 30) (K := 20) g x (fun _ => rfl) rfl rfl h1 h2)).trans rfl)
  · exact ((congrArg (fun o => oK o n f) (ast_pos (a := 98) (n := 30) (K := 20) g x (fun _ => rfl) rfl rfl h1 h2)).trans rfl)
  · exact ((congrArg (fun o => oK o n f) (ast_pos (a := 119) (n := 30) (K := 20) g x (fun _ => rfl) rfl rfl h1 h2)).trans rfl)
theorem al_D16 (X : Xs) {b : Int} (hb : isD b) (g : Mem) {i : Int} (h1 : 0 ≤ i) (h2 : i < 30) {A : Type} (n : A) (f : Int → A) : oK (aldI X S0 (ov g) (b + 16) i) n f = f (rd g (b + 16) i) := by
  rcases hb with rfl | rfl | rfl | rfl | rfl
  · exact ((congrArg (fun o => oK o n f) (aldI_pos (a := 35) (n := 30) X (ov g) (by decide) rfl rfl h1 h2)).trans rfl)
  · exact ((congrArg (fun o => oK o n f) (aldI_pos (a := 56) (n := 30) X (ov g) (by decide) rfl rfl h1 h2)).trans rfl)
  · exact ((congrArg (fun o => oK o n f) (aldI_pos (a := 78) (n := 30) X (ov g) (by decide) rfl rfl h1 h2)).trans rfl)
  · exact ((congrArg (fun o => oK o n f) (aldI_pos (a := 99) (n := 30) X (ov g) (by decide) rfl rfl h1 h2)).trans rfl)
  · exact ((congrArg (fun o => oK o n f) (aldI_pos (a := 120) (n := 30) X (ov g) (by decide) rfl rfl h1 h2)).trans rfl)
theorem as_D16 {b : Int} (hb : isD b) (g : Mem) {i : Int} (x : Int) (h1 : 0 ≤ i) (h2 : i < 30) {A : Type} (n : A) (f : Mem → A) : oK (ast S0 (ov g) 20 (b + 16) i x) n f = f (ov (wr g (b + 16) i x)) := by
  rcases hb with rfl | rfl | rfl | rfl | rfl
  · exact ((congrArg (fun o => oK o n f) (ast_pos (a := 35) (n := 30) (K := 20) g x (fun _ => rfl) rfl rfl h1 h2)).trans rfl)
  · exact ((congrArg (fun o => oK o n f) (ast_pos (a := 56) (n := 30) (K := 20) g x (fun _ => rfl) rfl rfl h1 h2)).trans rfl)
  · exact ((congrArg (fun o => oK o n f) (ast_pos (a := 78) (n := 30) (K := 20) g x (fun _ => rfl) rfl rfl h1 h2)).trans rfl)
  · exact ((congrArg (fun o => oK o n f) (ast_pos (a := 99) (n := 30) (K := 20) g x (fun _ => rfl) rfl rfl h1 h2)).trans rfl)
  · exact ((congrArg (fun o => oK o n f) (ast_pos (a := 120) (n := 30) (K := 20) g x (fun _ => rfl) rfl rfl h1 h2)).trans rfl)
theorem al_D17 (X : Xs) {b : Int} (hb : isD b) (g : Mem) {i : Int} (h1 : 0 ≤ i) (h2 : i < 30) {A : Type} (n : A) (f : Int → A) : oK (aldI X S0 (ov g) (b + 17) i) n f = f (rd g (b + 17) i) := by
  rcases hb with rfl | rfl | rfl | rfl | rfl
  · exact ((congrArg (fun o => oK o n f) (aldI_pos (a := 36) (n := 30) X (ov g) (by decide) rfl rfl h1 h2)).trans rfl)
  · exact ((congrArg (fun o => oK o n f) (aldI_pos (a := 57) (n := 30) X (ov g) (by decide) rfl rfl h1 h2)).trans rfl)
  · exact ((congrArg (fun o => oK o n f) (aldI_pos (a := 79) (n := 30) X (ov g) (by decide) rfl rfl h1 h2)).trans rfl)
  · exact ((congrArg (fun o => oK o n f) (aldI_pos (a := 100) (n := 30) X (ov g) (by decide) rfl rfl h1 h2)).trans rfl)
  · exact ((congrArg (fun o => oK o n f) (aldI_pos (a := 121) (n := 30) X (ov g) (by decide) rfl rfl h1 h2)).trans rfl)
theorem as_D17 {b : Int} (hb : isD b) (g : Mem) {i : Int} (x : Int) (h1 : 0 ≤ i) (h2 : i < 30) {A : Type} (n : A) (f : Mem → A) : oK (ast S0 (ov g) 20 (b + 17) i x) n f = f (ov (wr g (b + 17) i x)) := by
  rcases hb with rfl | rfl | rfl | rfl | rfl
  · exact ((congrArg (fun o => oK o n f) (ast_pos (a := 36) (n := 30) (K := 20) g x (fun _ => rfl) rfl rfl h1 h2)).trans rfl)
  · exact ((congrArg (fun o => oK o n f) (ast_pos (a := 57) (n := 30) (K := 20) g x (fun _ => rfl) rfl rfl h1 h2)).trans rfl)
  · exact ((congrArg (fun o => oK o n f) (ast_pos (a := 79) (n := 30) (K := 20) g x (fun _ => rfl) rfl rfl h1 h2)).trans rfl)
  · exact ((congrArg (fun o => oK o n f) (ast_pos (a := 100) (n := 30) (K := 20) g x (fun _ => rfl) rfl rfl h1 h2)).trans rfl)
  · exact ((congrArg (fun o => oK o n f) (ast_pos (a := 121) (n := 30) (K := 20) g x (fun _ => rfl) rfl rfl h1 h2)).trans rfl)
theorem al_D18 (X : Xs) {b : Int} (hb : isD b) (g : Mem) {i : Int} (h1 : 0 ≤ i) (h2 : i < 30) {A : Type} (n : A) (f : Int → A) : oK (aldI X S0 (ov g) (b + 18) i) n f = f (rd g (b + 18) i) := by
  rcases hb with rfl | rfl | rfl | rfl | rfl
  · exact ((congrArg (fun o => oK o n f) (aldI_pos (a := 37) (n := 30) X (ov g) (by decide) rfl rfl h1 h2)).trans rfl)
  · exact ((congrArg (fun o => oK o n f) (aldI_pos (a := 58) (n := 30) X (ov g) (by decide) rfl rfl h1 h2)).trans rfl)
  · exact ((congrArg (fun o => oK o n f) (aldI_pos (a := 80) (n := 30) X (ov g) (by decide) rfl rfl h1 h2)).trans rfl)
  · exact ((congrArg (fun o => oK o n f) (aldI_pos (a := 101) (n := 30) X (ov g) (by decide) rfl rfl h1 h2)).trans rfl)
  · exact ((congrArg (fun o => oK o n f) (aldI_pos (a := 122) (n := 30) X (ov g) (by decide) rfl rfl h1 h2)).trans rfl)
theorem as_D18 {b : Int} (hb : isD b) (g : Mem) {i : Int} (x : Int) (h1 : 0 ≤ i) (h2 : i < 30) {A : Type} (n : A) (f : Mem → A) : oK (ast S0 (ov g) 20 (b + 18) i x) n f = f (ov (wr g (b + 18) i x)) := by
  rcases hb with rfl | rfl | rfl | rfl | rfl
  · exact ((congrArg (fun o => oK o n f) (ast_pos (a := 37) (n := 30) (K := 20) g x (fun _ => rfl) rfl rfl h1 h2)).trans rfl)
  · exact ((congrArg (fun o => oK o n f) (ast_pos (a := 58) (n := 30) (K := 20) g x (fun _ => rfl) rfl rfl h1 h2)).trans rfl)
  · exact ((congrArg (fun o => oK o n f) (ast_pos (a := 80) (n := 30) (K := 20) g x (fun _ => rfl) rfl rfl h1 h2)).trans rfl)
  · exact ((congrArg (fun o => oK o n f) (ast_pos (a := 101) (n := 30) (K := 20) g x (fun _ => rfl) rfl rfl h1 h2)).trans rfl)
  · exact ((congrArg (fun o => oK o n f) (ast_pos (a := 122) (n := 30) (K := 20) g x (fun _ => rfl) rfl rfl h1 h2)).trans rfl)
theorem al_D19 (X : Xs) {b : Int} (hb : isD b) (g : Mem) {i : Int} (h1 : 0 ≤ i) (h2 : i < 30) {A : Type} (n : A) (f : Int → A) : oK (aldI X S0 (ov g) (b + 19) i) n f = f (rd g (b + 19) i) := by
  rcases hb with rfl | rfl | rfl | rfl | rfl
  · exact ((congrArg (fun o => oK o n f) (aldI_pos (a := 38) (n := 30) X (ov g) (by decide) rfl rfl h1 h2)).trans rfl)
  · exact ((congrArg (fun o => oK o n f) (aldI_pos (a := 59) (n := 30) X (ov g) (by decide) rfl rfl h1 h2)).trans rfl)
  · exact ((congrArg (fun o => oK o n f) (aldI_pos (a := 81) (n := 30) X (ov g) (by decide) rfl rfl h1 h2)).trans rfl)
  · exact ((congrArg (fun o => oK o n f) (aldI_pos (a := 102) (n := 30) X (ov g) (by decide) rfl rfl h1 h2)).trans rfl)
  · exact ((congrArg (fun o => oK o n f) (aldI_pos (a := 123) (n := 30) X (ov g) (by decide) rfl rfl h1 h2)).trans rfl)
theorem as_D19 {b : Int} (hb : isD b) (g : Mem) {i : Int} (x : Int) (h1 : 0 ≤ i) (h2 : i < 30) {A : Type} (n : A) (f : Mem → A) : oK (ast S0 (ov g) 20 (b + 19) i x) n f = f (ov (wr g (b + 19) i x)) := by
  rcases hb with rfl | rfl | rfl | rfl | rfl
  · exact ((congrArg (fun o => oK o n f) (ast_pos (a := 38) (n := 30) (K := 20) g x (fun _ => rfl) rfl rfl h1 h2)).trans rfl)
  · exact ((congrArg (fun o => oK o n f) (ast_pos (a := 59) (n := 30) (K := 20) g x (fun _ => rfl) rfl rfl h1 h2)).trans rfl)
  · exact ((congrArg (fun o => oK o n f) (ast_pos (a := 81) (n := 30) (K := 20) g x (fun _ => rfl) rfl rfl h1 h2)).trans rfl)
  · exact ((congrArg (fun o => oK o n f) (ast_pos (a := 102) (n := 30) (K := 20) g x (fun _ => rfl) rfl rfl h1 h2)).trans rfl)
  · exact ((congrArg (fun o => oK o n f) (ast_pos (a := 123) (n := 30) (K := 20) g x (fun _ => rfl) rfl rfl h1 h2)).trans rfl)
theorem al_D20 (X : Xs) {b : Int} (hb : isD b) (g : Mem) {i : Int} (h1 : 0 ≤ i) (h2 : i < 30) {A : Type} (n : A) (f : Int → A) : oK (aldI X S0 (ov g) (b + 20) i) n f = f (rd g (b + 20) i) := by
  rcases hb with rfl | rfl | rfl | rfl | rfl
  · exact ((congrArg (fun o => oK o n f) (aldI_pos (a := 39) (n := 30) X (ov g) (by decide) rfl rfl h1 h2)).trans rfl)
  · exact ((congrArg (fun o => oK o n f) (aldI_pos (a := 60) (n := 30) X (ov g) (by decide) rfl rfl h1 h2)).trans rfl)
  · exact ((congrArg (fun o => oK o n f) (aldI_pos (a := 82) (n := 30) X (ov g) (by decide) rfl rfl h1 h2)).trans rfl)
  · exact ((congrArg (fun o => oK o n f) (aldI_pos (a := 103) (n := 30) X (ov g) (by decide) rfl rfl h1 h2)).trans rfl)
  · exact ((congrArg (fun o => oK o n f) (aldI_pos (a := 124) (n := 30) X (ov g) (by decide) rfl rfl h1 h2)).trans rfl)
theorem as_D20 {b : Int} (hb : isD b) (g : Mem) {i : Int} (x : Int) (h1 : 0 ≤ i) (h2 : i < 30) {A : Type} (n : A) (f : Mem → A) : oK (ast S0 (ov g) 20 (b + 20) i x) n f = f (ov (wr g (b + 20) i x)) := by
  rcases hb with rfl | rfl | rfl | rfl | rfl
  · exact ((congrArg (fun o => oK o n f) (ast_pos (a := 39) (n := 30) (K := 20) g x (fun _ => rfl) rfl rfl h1 h2)).trans rfl)
  · exact ((congrArg (fun o => oK o n f) (ast_pos (a := 60) (n := 30) (K := 20) g x (fun _ => rfl) rfl rfl h1 h2)).trans rfl)
  · exact ((congrArg (fun o => oK o n f) (ast_pos (a := 82) (n := 30) (K := 20) g x (fun _ => rfl) rfl rfl h1 h2)).trans rfl)
  · exact ((congrArg (fun o => oK o n f) (ast_pos (a := 103) (n := 30) (K := 20) g x (fun _ => rfl) rfl rfl h1 h2)).trans rfl)
  · exact ((congrArg (fun o => oK o n f) (ast_pos (a := 124) (n := 30) (K := 20) g x (fun _ => rfl) rfl rfl h1 h2)).trans rfl)
/-- the rows of the TRAYS, the MARKS, the arrays that are never written -/
theorem al_rows (g : Mem) {i : Int} (h1 : 0 ≤ i) (h2 : i < 4) {A : Type} (n : A) (f : Int → A) : oK (ald S0 (ov g) 25 3 i) n f = f (4 + i) := by
  have hc : i = 0 ∨ i = 1 ∨ i = 2 ∨ i = 3 := by omega
  rcases hc with rfl | rfl | rfl | rfl <;> rfl
theorem al_row (g : Mem) {t i : Int} (ha : 0 ≤ t) (hb : t < 4) (h1 : 0 ≤ i) (h2 : i < 60) {A : Type} (n : A) (f : Int → A) : oK (ald S0 (ov g) 21 (4 + t) i) n f = f (rd g (4 + t) i) := by
  have hc : t = 0 ∨ t = 1 ∨ t = 2 ∨ t = 3 := by omega
  rcases hc with rfl | rfl | rfl | rfl
  · exact ((congrArg (fun o => oK o n f) (ald_pos (a := 4) (n := 60) (K := 21) (ov g) rfl rfl h1 h2)).trans rfl)
  · exact ((congrArg (fun o => oK o n f) (ald_pos (a := 5) (n := 60) (K := 21) (ov g) rfl rfl h1 h2)).trans rfl)
  · exact ((congrArg (fun o => oK o n f) (ald_pos (a := 6) (n := 60) (K := 21) (ov g) rfl rfl h1 h2)).trans rfl)
  · exact ((congrArg (fun o => oK o n f) (ald_pos (a := 7) (n := 60) (K := 21) (ov g) rfl rfl h1 h2)).trans rfl)
theorem as_row (g : Mem) {t i : Int} (x : Int) (ha : 0 ≤ t) (hb : t < 4) (h1 : 0 ≤ i) (h2 : i < 60) {A : Type} (n : A) (f : Mem → A) : oK (ast S0 (ov g) 21 (4 + t) i x) n f = f (ov (wr g (4 + t) i x)) := by
  have hc : t = 0 ∨ t = 1 ∨ t = 2 ∨ t = 3 := by omega
  rcases hc with rfl | rfl | rfl | rfl
  · exact ((congrArg (fun o => oK o n f) (ast_pos (a := 4) (n := 60) (K := 21) g x (fun _ => rfl) rfl rfl h1 h2)).trans rfl)
  · exact ((congrArg (fun o => oK o n f) (ast_pos (a := 5) (n := 60) (K := 21) g x (fun _ => rfl) rfl rfl h1 h2)).trans rfl)
  · exact ((congrArg (fun o => oK o n f) (ast_pos (a := 6) (n := 60) (K := 21) g x (fun _ => rfl) rfl rfl h1 h2)).trans rfl)
  · exact ((congrArg (fun o => oK o n f) (ast_pos (a := 7) (n := 60) (K := 21) g x (fun _ => rfl) rfl rfl h1 h2)).trans rfl)
def mkB (i : Int) : Int := 62 + 21 * i
theorem mkB_D {i : Int} (h1 : 0 ≤ i) (h2 : i < 3) : isD (mkB i) := by
  have hc : i = 0 ∨ i = 1 ∨ i = 2 := by omega
  rcases hc with rfl | rfl | rfl <;> simp [isD, mkB]
theorem al_marks (g : Mem) {i : Int} (h1 : 0 ≤ i) (h2 : i < 3) {A : Type} (n : A) (f : Int → A) : oK (ald S0 (ov g) 24 61 i) n f = f (mkB i) := by
  have hc : i = 0 ∨ i = 1 ∨ i = 2 := by omega
  rcases hc with rfl | rfl | rfl <;> rfl
def roLow (i : Int) : Int := [2, 0, 0, 0].getD i.toNat 0
def roHigh (i : Int) : Int := [12, 99, 9, 16].getD i.toNat 0
theorem al_low (X : Xs) (g : Mem) {i : Int} (h1 : 0 ≤ i) (h2 : i < 4) {A : Type} (n : A) (f : Int → A) : oK (aldI X S0 (ov g) (-3) i) n f = f (roLow i) := by
  have hc : i = 0 ∨ i = 1 ∨ i = 2 ∨ i = 3 := by omega
  rcases hc with rfl | rfl | rfl | rfl <;> rfl
theorem al_high (X : Xs) (g : Mem) {i : Int} (h1 : 0 ≤ i) (h2 : i < 4) {A : Type} (n : A) (f : Int → A) : oK (aldI X S0 (ov g) (-4) i) n f = f (roHigh i) := by
  have hc : i = 0 ∨ i = 1 ∨ i = 2 ∨ i = 3 := by omega
  rcases hc with rfl | rfl | rfl | rfl <;> rfl
theorem al_script (X : Xs) (g : Mem) {i : Int} (h1 : 0 ≤ i) (h2 : i < (X.1 : Int)) {A : Type} (n : A) (f : Int → A) : oK (aldI X S0 (ov g) (-2) i) n f = f (X.2 i.toNat) := by
  unfold aldI am_ro
  rw [if_pos (by decide), if_pos rfl, if_pos ⟨h1, h2⟩]
  rfl
theorem len_script (X : Xs) (g : Mem) {A : Type} (n : A) (f : Int → A) : oK (aln X S0 (-2)) n f = f (X.1 : Int) := rfl
theorem rd_wr_eq (h : Mem) (a i x : Int) : rd (wr h a i x) a i = x := by unfold rd wr up; simp
theorem rd_wr_ne (h : Mem) {a b : Int} (i j x : Int) (ha : 0 ≤ a) (hb : 0 ≤ b) (hne : b ≠ a) : rd (wr h a i x) b j = rd h b j := by
  unfold rd wr up
  rw [if_neg]
  intro z
  omega
theorem rd_wr_ix (h : Mem) {a b i j : Int} (x : Int) (hi : 0 ≤ i) (hj : 0 ≤ j) (hne : j ≠ i) : rd (wr h a i x) b j = rd h b j := by
  unfold rd wr up
  rw [if_neg]
  intro z
  omega
theorem rd_wr_if (h : Mem) (a : Int) {i j : Int} (x : Int) (hi : 0 ≤ i) (hj : 0 ≤ j) : rd (wr h a i x) a j = if j = i then x else rd h a j := by
  unfold rd wr up
  by_cases e : j = i
  · subst e; simp
  · rw [if_neg e, if_neg]
    intro z
    omega
/-- a run of cells of one array comes from another one -/
def cp (h : Mem) (q r p d n : Int) : Mem := cpy h q.toNat (h r.toNat) p.toNat d.toNat n.toNat
theorem rd_cp (h : Mem) {q r p d n a i : Int} (hq : 0 ≤ q) (ha : 0 ≤ a) (hp : 0 ≤ p) (hd : 0 ≤ d) (hn : 0 ≤ n) (hi : 0 ≤ i) : rd (cp h q r p d n) a i = if a = q ∧ d ≤ i ∧ i < d + n then rd h r (p + (i - d)) else rd h a i := by
  unfold rd cp cpy
  by_cases e : a = q ∧ d ≤ i ∧ i < d + n
  · rw [if_pos e, if_pos (by omega)]
    congr 1
    omega
  · rw [if_neg e, if_neg (by omega)]
theorem rd_cp_ne (h : Mem) {q r p d n a i : Int} (hq : 0 ≤ q) (ha : 0 ≤ a) (hne : a ≠ q) : rd (cp h q r p d n) a i = rd h a i := by
  unfold rd cp cpy
  rw [if_neg]
  intro z
  omega
theorem cp_ov (g : Mem) {q r p d n : Int} (hq : ∀ j, rT q.toNat j = none) (hr : ∀ j, rT r.toNat j = none) : cp (ov g) q r p d n = ov (cp g q r p d n) := by
  have e : ov g r.toNat = g r.toNat := by funext j; unfold ov; rw [hr]
  funext c k
  unfold cp
  rw [e]
  by_cases z : c = q.toNat
  · subst z
    unfold cpy ov
    rw [hq]
  · unfold cpy ov
    rw [if_neg (fun y => z y.1)]
    cases rT c k with
    | none => dsimp only; rw [if_neg (fun y => z y.1)]
    | some _ => rfl
theorem acp_pos (X : Xs) (g : Mem) {q r p d n : Int} {K lr lq : Nat} (hK : K = 20 ∨ K = 21) (hn : r ≠ -5) (k1 : kd S0 r = K) (k2 : kd S0 q = K) (l1 : ln S0 r = lr) (l2 : ln S0 q = lq) (hq : ∀ j, rT q.toNat j = none) (hr : ∀ j, rT r.toNat j = none) (h1 : 0 ≤ p) (h2 : 0 ≤ d) (h3 : 0 ≤ n) (h4 : p + n ≤ (lr : Int)) (h5 : d + n ≤ (lq : Int)) : acp X S0 (ov g) r p q d n = some (ov (cp g q r p d n)) := by
  unfold acp
  rw [if_neg hn, if_pos ⟨by rw [k1]; exact hK, by rw [k1, k2], h1, h2, h3, by rw [l1]; exact h4, by rw [l2]; exact h5⟩, ← cp_ov g hq hr]
  rfl
theorem w32_id {x : Int} (h1 : -2147483648 ≤ x) (h2 : x < 2147483648) : w32 x = x := by
  unfold w32
  rw [Int.bmod_def]
  split <;> omega
theorem w64_id {x : Int} (h1 : -9223372036854775808 ≤ x) (h2 : x < 9223372036854775808) : w64 x = x := by
  unfold w64
  rw [Int.bmod_def]
  split <;> omega
theorem w32_rng (x : Int) : -2147483648 ≤ w32 x ∧ w32 x < 2147483648 := by
  unfold w32
  rw [Int.bmod_def]
  split <;> omega
theorem w64_rng (x : Int) : -9223372036854775808 ≤ w64 x ∧ w64 x < 9223372036854775808 := by
  unfold w64
  rw [Int.bmod_def]
  split <;> omega
theorem w16_rng (x : Int) : -32768 ≤ w16 x ∧ w16 x < 32768 := by
  unfold w16
  rw [Int.bmod_def]
  split <;> omega
theorem w8_rng (x : Int) : -128 ≤ w8 x ∧ w8 x < 128 := by
  unfold w8
  rw [Int.bmod_def]
  split <;> omega
/-- an answer of the machine with the shapes and references as they were -/
def Ok (P : Int → Mem → Prop) (o : Option Rs) : Prop := ∃ v g, o = some (v, S0, ov g) ∧ P v g
theorem Ok_some {P : Int → Mem → Prop} {v : Int} {g : Mem} (k : P v g) : Ok P (some (v, S0, ov g)) := ⟨v, g, rfl, k⟩
theorem Ok_mono {P Q : Int → Mem → Prop} {o : Option Rs} (k : Ok P o) (f : ∀ v g, P v g → Q v g) : Ok Q o := by
  obtain ⟨v, g, e, z⟩ := k
  exact ⟨v, g, e, f v g z⟩
theorem Ok_bind {P Q : Int → Mem → Prop} {o : Option Rs} {f : Int → Sh → Mem → Option Rs} (k : Ok Q o) (c : ∀ v g, Q v g → Ok P (f v S0 (ov g))) : Ok P (oC o f) := by
  obtain ⟨v, g, e, z⟩ := k
  rw [e]
  exact c v g z
theorem Ok_eq {P : Int → Mem → Prop} {v : Int} {g : Mem} {o : Option Rs} (e : o = some (v, S0, ov g)) (k : P v g) : Ok P o := ⟨v, g, e, k⟩
/-- truth as a number -/
def b2i (p : Prop) [Decidable p] : Int := if p then 1 else 0
theorem if_b2i (p : Prop) [Decidable p] {A : Type} (x y : A) : (if b2i p = 0 then x else y) = if p then y else x := by
  unfold b2i
  by_cases hp : p
  · rw [if_pos hp, if_pos hp]; exact if_neg (by decide)
  · rw [if_neg hp, if_neg hp]; exact if_pos rfl
theorem if_b2i1 (p : Prop) [Decidable p] {A : Type} (x y : A) : (if b2i p = 1 then x else y) = if p then x else y := by
  unfold b2i
  by_cases hp : p
  · rw [if_pos hp, if_pos hp]; exact if_pos rfl
  · rw [if_neg hp, if_neg hp]; exact if_neg (by decide)
