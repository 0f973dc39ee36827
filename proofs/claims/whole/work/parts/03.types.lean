/-! THE ABSTRACT MACHINE: ints and longs as Int (not wrapped), a heap as a list of cells, a reference as a place in it -/
abbrev AV : Type := Int ⊕ Int ⊕ Option Nat ⊕ UInt32 ⊕ UInt64 ⊕ Nat
abbrev vI (x : Int) : AV := .inl x
abbrev vL (x : Int) : AV := .inr (.inl x)
abbrev vR (r : Option Nat) : AV := .inr (.inr (.inl r))
abbrev vF (x : UInt32) : AV := .inr (.inr (.inr (.inl x)))
abbrev vD (x : UInt64) : AV := .inr (.inr (.inr (.inr (.inl x))))
/-- 0: the law's script; 1: the empty array that a new ArrayList holds; 2: a reference of which nothing is known (a caught exception) -/
abbrev vM (b : Nat) : AV := .inr (.inr (.inr (.inr (.inr b))))
abbrev AC : Type := (Nat × List AV) ⊕ (Nat × List Int) ⊕ List Int ⊕ List UInt64 ⊕ (Nat × List (Option Nat))
abbrev cO (ci : Nat) (fs : List AV) : AC := .inl (ci, fs)
abbrev cI (t : Nat) (xs : List Int) : AC := .inr (.inl (t, xs))
abbrev cL (xs : List Int) : AC := .inr (.inr (.inl xs))
abbrev cD (xs : List UInt64) : AC := .inr (.inr (.inr (.inl xs)))
abbrev cQ (t : Nat) (xs : List (Option Nat)) : AC := .inr (.inr (.inr (.inr (t, xs))))
/-- the cells, and how many exceptions were made -/
abbrev Hp : Type := List AC × Nat
abbrev Lc : Type := List (Option AV)
abbrev Sk : Type := List AV
abbrev Rs : Type := (Option AV ⊕ Nat) × Hp
abbrev AI : Type := Nat × Instr × List Nat
