/-! THE SECOND MACHINE'S STEPS AS EQUATIONS: by program (wip/gen/eng.py) -/
def gt (h : Hp) (a : Nat) : Option AC := h.1[a]?
def ut (h : Hp) (a : Nat) (c : AC) : Hp := (h.1.set a c, h.2)
def ap (h : Hp) (c : AC) : Hp := (h.1 ++ [c], h.2)
def xc (h : Hp) : Hp := (h.1, h.2 + 1)
def ln (h : Hp) : Nat := h.1.length
theorem ln_ut (h : Hp) (a : Nat) (c : AC) : ln (ut h a c) = ln h := by simp [ln, ut]
theorem ln_ap (h : Hp) (c : AC) : ln (ap h c) = ln h + 1 := by simp [ln, ap]
theorem ln_xc (h : Hp) : ln (xc h) = ln h := rfl
theorem gt_xc (h : Hp) (a : Nat) : gt (xc h) a = gt h a := rfl
theorem gt_ne (h : Hp) {a b : Nat} (c : AC) (hn : a ≠ b) : gt (ut h a c) b = gt h b := by simp [gt, ut, List.getElem?_set_ne hn]
theorem gt_eq (h : Hp) {a : Nat} (c : AC) (hn : a < ln h) : gt (ut h a c) a = some c := by unfold gt ut; exact List.getElem?_set_self hn
theorem gt_lt {h : Hp} {a : Nat} {c : AC} (hc : gt h a = some c) : a < ln h := (List.getElem?_eq_some_iff.mp hc).1
theorem gt_al (h : Hp) {a : Nat} (c : AC) (hn : a < ln h) : gt (ap h c) a = gt h a := by unfold gt ap; exact List.getElem?_append_left hn
theorem gt_ae (h : Hp) (c : AC) {a : Nat} (hn : a = ln h) : gt (ap h c) a = some c := by subst hn; unfold gt ap ln; simp
theorem ut_same (h : Hp) (a : Nat) (c d : AC) : ut (ut h a c) a d = ut h a d := by unfold ut; simp [List.set_set]
theorem ut_swap (h : Hp) {a b : Nat} (c d : AC) (hn : b < a) : ut (ut h a c) b d = ut (ut h b d) a c := by
  unfold ut
  rw [List.set_comm _ _ (by omega)]
theorem ut_xc (h : Hp) (a : Nat) (c : AC) : ut (xc h) a c = xc (ut h a c) := rfl
theorem ut_id {h : Hp} {a : Nat} {c : AC} (hc : gt h a = some c) : ut h a c = h := by
  have : h.1.set a c = h.1 := by
    apply List.ext_getElem?
    intro i
    by_cases hi : a = i
    · subst hi
      rw [List.getElem?_set_self (gt_lt hc)]
      exact hc.symm
    · rw [List.getElem?_set_ne hi]
  unfold ut
  rw [this]

/-- a cell's field, a row's length among them -/
def yF (c : Option AC) (ci k : Nat) : Option AV := match yrw c with
  | some r => if ci = 4 ∧ k = 1 then some (vI r.2.length) else none
  | none => (match c with
    | some (.inl (c', fs)) => if c' = ci then fs[k]? else none
    | _ => none)
/-- a cell with a field written -/
def yG (c : Option AC) (ci k : Nat) (v : AV) : Option AC := match yrw c with
  | some _ => none
  | none => (match c with
    | some (.inl (c', fs)) => if c' = ci ∧ k < fs.length then some (.inl (c', fs.set k v)) else none
    | _ => none)
def yI (c : Option AC) (t : Nat) (i : Int) : Option Int := match c with
  | some (.inr (.inl (t', xs))) => if t' = t ∧ 0 ≤ i ∧ i < (xs.length : Int) ∧ i < 2147483648 then xs[i.toNat]? else none
  | _ => none
def yJ (c : Option AC) (t : Nat) (i v : Int) : Option AC := match c with
  | some (.inr (.inl (t', xs))) => if t' = t ∧ 0 ≤ i ∧ i < (xs.length : Int) ∧ i < 2147483648 then some (.inr (.inl (t', xs.set i.toNat v))) else none
  | _ => none
def yL (c : Option AC) (i : Int) : Option Int := match c with
  | some (.inr (.inr (.inl xs))) => if 0 ≤ i ∧ i < (xs.length : Int) ∧ i < 2147483648 then xs[i.toNat]? else none
  | _ => none
def yM (c : Option AC) (i v : Int) : Option AC := match c with
  | some (.inr (.inr (.inl xs))) => if 0 ≤ i ∧ i < (xs.length : Int) ∧ i < 2147483648 then some (.inr (.inr (.inl (xs.set i.toNat v)))) else none
  | _ => none
def yD (c : Option AC) (i : Int) : Option UInt64 := match c with
  | some (.inr (.inr (.inr (.inl xs)))) => if 0 ≤ i ∧ i < (xs.length : Int) ∧ i < 2147483648 then xs[i.toNat]? else none
  | _ => none
def yE (c : Option AC) (i : Int) (v : UInt64) : Option AC := match c with
  | some (.inr (.inr (.inr (.inl xs)))) => if 0 ≤ i ∧ i < (xs.length : Int) ∧ i < 2147483648 then some (.inr (.inr (.inr (.inl (xs.set i.toNat v))))) else none
  | _ => none
def yQ (c : Option AC) (i : Int) : Option (Option Nat) := match c with
  | some (.inr (.inr (.inr (.inr (_, xs))))) => if 0 ≤ i ∧ i < (xs.length : Int) ∧ i < 2147483648 then xs[i.toNat]? else none
  | _ => none
def yU (c d : Option AC) (i : Int) (x : Option Nat) : Option AC := match c with
  | some (.inr (.inr (.inr (.inr (t, xs))))) => if 0 ≤ i ∧ i < (xs.length : Int) ∧ i < 2147483648 ∧ (x = none ∨ zfit t d = true) then some (.inr (.inr (.inr (.inr (t, xs.set i.toNat x))))) else none
  | _ => none
def yN (c : Option AC) : Option Int := match c with
  | some (.inr (.inl (_, xs))) => some xs.length
  | some (.inr (.inr (.inl xs))) => some xs.length
  | some (.inr (.inr (.inr (.inl xs)))) => some xs.length
  | some (.inr (.inr (.inr (.inr (_, xs))))) => some xs.length
  | _ => none
/-- is it an object of this class (a row is one of class 4) -/
def yC (c : Option AC) (ci : Nat) : Bool := match yrw c with
  | some _ => ci == 4
  | none => (match c with
    | some (.inl (c', _)) => c' == ci
    | _ => false)
section
variable {scr : List Int} {m pc : Nat} {r : List AI} {ls : Lc} {st : Sk} {h : Hp} {P : Rs → Prop}
/-- on with a value, or stuck -/
def yv (scr : List Int) (m : Nat) (r : List AI) (ls : Lc) (st : Sk) (h : Hp) (P : Rs → Prop) (o : Option AV) : Prop := match o with
  | some v => Py scr m r ls (v :: st) h P
  | none => False
/-- on with a cell written, or stuck -/
def yw (scr : List Int) (m : Nat) (r : List AI) (ls : Lc) (st : Sk) (h : Hp) (P : Rs → Prop) (a : Nat) (o : Option AC) : Prop := match o with
  | some c => Py scr m r ls st (ut h a c) P
  | none => False
theorem yv_some (v : AV) : yv scr m r ls st h P (some v) = Py scr m r ls (v :: st) h P := rfl
theorem yw_some (a : Nat) (c : AC) : yw scr m r ls st h P a (some c) = Py scr m r ls st (ut h a c) P := rfl
theorem py_stuck {i : Instr} {x : List Nat} (hk : yok i x = true) (hp : yprim i x st h = none) (hb : yrm i x = false ∧ yalt i x st h = false) (e : ∀ rec, zstp scr zprog zmxl zfks rec m r i x ls st h = none) : Py scr m ((pc, i, x) :: r) ls st h P = False := by
  apply propext
  constructor
  · rintro ⟨n, res, h1, h2⟩
    cases n with
    | zero => simp [yrun] at h1
    | succ n =>
      simp only [yrun] at h1
      rw [if_pos hk, hp] at h1
      simp only [hb.1, hb.2, Bool.false_eq_true, if_false] at h1
      rw [e] at h1
      cases h1
  · exact False.elim
theorem py_iload0 {a : Int} {l : Lc} {x : List Nat} : Py scr m ((pc, .iload 0, x) :: r) (some (.inl a) :: l) st h P = Py scr m r (some (.inl a) :: l) (.inl a :: st) h P := py_step rfl rfl ⟨rfl, rfl⟩ (fun _ => rfl)
theorem py_iload1 {l0 : Option AV} {a : Int} {l : Lc} {x : List Nat} : Py scr m ((pc, .iload 1, x) :: r) (l0 :: some (.inl a) :: l) st h P = Py scr m r (l0 :: some (.inl a) :: l) (.inl a :: st) h P := py_step rfl rfl ⟨rfl, rfl⟩ (fun _ => rfl)
theorem py_iload2 {l0 l1 : Option AV} {a : Int} {l : Lc} {x : List Nat} : Py scr m ((pc, .iload 2, x) :: r) (l0 :: l1 :: some (.inl a) :: l) st h P = Py scr m r (l0 :: l1 :: some (.inl a) :: l) (.inl a :: st) h P := py_step rfl rfl ⟨rfl, rfl⟩ (fun _ => rfl)
theorem py_iload3 {l0 l1 l2 : Option AV} {a : Int} {l : Lc} {x : List Nat} : Py scr m ((pc, .iload 3, x) :: r) (l0 :: l1 :: l2 :: some (.inl a) :: l) st h P = Py scr m r (l0 :: l1 :: l2 :: some (.inl a) :: l) (.inl a :: st) h P := py_step rfl rfl ⟨rfl, rfl⟩ (fun _ => rfl)
theorem py_iload4 {l0 l1 l2 l3 : Option AV} {a : Int} {l : Lc} {x : List Nat} : Py scr m ((pc, .iload 4, x) :: r) (l0 :: l1 :: l2 :: l3 :: some (.inl a) :: l) st h P = Py scr m r (l0 :: l1 :: l2 :: l3 :: some (.inl a) :: l) (.inl a :: st) h P := py_step rfl rfl ⟨rfl, rfl⟩ (fun _ => rfl)
theorem py_iload5 {l0 l1 l2 l3 l4 : Option AV} {a : Int} {l : Lc} {x : List Nat} : Py scr m ((pc, .iload 5, x) :: r) (l0 :: l1 :: l2 :: l3 :: l4 :: some (.inl a) :: l) st h P = Py scr m r (l0 :: l1 :: l2 :: l3 :: l4 :: some (.inl a) :: l) (.inl a :: st) h P := py_step rfl rfl ⟨rfl, rfl⟩ (fun _ => rfl)
theorem py_iload6 {l0 l1 l2 l3 l4 l5 : Option AV} {a : Int} {l : Lc} {x : List Nat} : Py scr m ((pc, .iload 6, x) :: r) (l0 :: l1 :: l2 :: l3 :: l4 :: l5 :: some (.inl a) :: l) st h P = Py scr m r (l0 :: l1 :: l2 :: l3 :: l4 :: l5 :: some (.inl a) :: l) (.inl a :: st) h P := py_step rfl rfl ⟨rfl, rfl⟩ (fun _ => rfl)
theorem py_iload7 {l0 l1 l2 l3 l4 l5 l6 : Option AV} {a : Int} {l : Lc} {x : List Nat} : Py scr m ((pc, .iload 7, x) :: r) (l0 :: l1 :: l2 :: l3 :: l4 :: l5 :: l6 :: some (.inl a) :: l) st h P = Py scr m r (l0 :: l1 :: l2 :: l3 :: l4 :: l5 :: l6 :: some (.inl a) :: l) (.inl a :: st) h P := py_step rfl rfl ⟨rfl, rfl⟩ (fun _ => rfl)
theorem py_iload8 {l0 l1 l2 l3 l4 l5 l6 l7 : Option AV} {a : Int} {l : Lc} {x : List Nat} : Py scr m ((pc, .iload 8, x) :: r) (l0 :: l1 :: l2 :: l3 :: l4 :: l5 :: l6 :: l7 :: some (.inl a) :: l) st h P = Py scr m r (l0 :: l1 :: l2 :: l3 :: l4 :: l5 :: l6 :: l7 :: some (.inl a) :: l) (.inl a :: st) h P := py_step rfl rfl ⟨rfl, rfl⟩ (fun _ => rfl)
theorem py_iload9 {l0 l1 l2 l3 l4 l5 l6 l7 l8 : Option AV} {a : Int} {l : Lc} {x : List Nat} : Py scr m ((pc, .iload 9, x) :: r) (l0 :: l1 :: l2 :: l3 :: l4 :: l5 :: l6 :: l7 :: l8 :: some (.inl a) :: l) st h P = Py scr m r (l0 :: l1 :: l2 :: l3 :: l4 :: l5 :: l6 :: l7 :: l8 :: some (.inl a) :: l) (.inl a :: st) h P := py_step rfl rfl ⟨rfl, rfl⟩ (fun _ => rfl)
theorem py_iload10 {l0 l1 l2 l3 l4 l5 l6 l7 l8 l9 : Option AV} {a : Int} {l : Lc} {x : List Nat} : Py scr m ((pc, .iload 10, x) :: r) (l0 :: l1 :: l2 :: l3 :: l4 :: l5 :: l6 :: l7 :: l8 :: l9 :: some (.inl a) :: l) st h P = Py scr m r (l0 :: l1 :: l2 :: l3 :: l4 :: l5 :: l6 :: l7 :: l8 :: l9 :: some (.inl a) :: l) (.inl a :: st) h P := py_step rfl rfl ⟨rfl, rfl⟩ (fun _ => rfl)
theorem py_iload11 {l0 l1 l2 l3 l4 l5 l6 l7 l8 l9 l10 : Option AV} {a : Int} {l : Lc} {x : List Nat} : Py scr m ((pc, .iload 11, x) :: r) (l0 :: l1 :: l2 :: l3 :: l4 :: l5 :: l6 :: l7 :: l8 :: l9 :: l10 :: some (.inl a) :: l) st h P = Py scr m r (l0 :: l1 :: l2 :: l3 :: l4 :: l5 :: l6 :: l7 :: l8 :: l9 :: l10 :: some (.inl a) :: l) (.inl a :: st) h P := py_step rfl rfl ⟨rfl, rfl⟩ (fun _ => rfl)
theorem py_iload12 {l0 l1 l2 l3 l4 l5 l6 l7 l8 l9 l10 l11 : Option AV} {a : Int} {l : Lc} {x : List Nat} : Py scr m ((pc, .iload 12, x) :: r) (l0 :: l1 :: l2 :: l3 :: l4 :: l5 :: l6 :: l7 :: l8 :: l9 :: l10 :: l11 :: some (.inl a) :: l) st h P = Py scr m r (l0 :: l1 :: l2 :: l3 :: l4 :: l5 :: l6 :: l7 :: l8 :: l9 :: l10 :: l11 :: some (.inl a) :: l) (.inl a :: st) h P := py_step rfl rfl ⟨rfl, rfl⟩ (fun _ => rfl)
theorem py_lload0 {a : Int} {l : Lc} {x : List Nat} : Py scr m ((pc, .lload 0, x) :: r) (some (.inr (.inl a)) :: l) st h P = Py scr m r (some (.inr (.inl a)) :: l) (.inr (.inl a) :: st) h P := py_step rfl rfl ⟨rfl, rfl⟩ (fun _ => rfl)
theorem py_lload1 {l0 : Option AV} {a : Int} {l : Lc} {x : List Nat} : Py scr m ((pc, .lload 1, x) :: r) (l0 :: some (.inr (.inl a)) :: l) st h P = Py scr m r (l0 :: some (.inr (.inl a)) :: l) (.inr (.inl a) :: st) h P := py_step rfl rfl ⟨rfl, rfl⟩ (fun _ => rfl)
theorem py_lload2 {l0 l1 : Option AV} {a : Int} {l : Lc} {x : List Nat} : Py scr m ((pc, .lload 2, x) :: r) (l0 :: l1 :: some (.inr (.inl a)) :: l) st h P = Py scr m r (l0 :: l1 :: some (.inr (.inl a)) :: l) (.inr (.inl a) :: st) h P := py_step rfl rfl ⟨rfl, rfl⟩ (fun _ => rfl)
theorem py_lload3 {l0 l1 l2 : Option AV} {a : Int} {l : Lc} {x : List Nat} : Py scr m ((pc, .lload 3, x) :: r) (l0 :: l1 :: l2 :: some (.inr (.inl a)) :: l) st h P = Py scr m r (l0 :: l1 :: l2 :: some (.inr (.inl a)) :: l) (.inr (.inl a) :: st) h P := py_step rfl rfl ⟨rfl, rfl⟩ (fun _ => rfl)
theorem py_lload4 {l0 l1 l2 l3 : Option AV} {a : Int} {l : Lc} {x : List Nat} : Py scr m ((pc, .lload 4, x) :: r) (l0 :: l1 :: l2 :: l3 :: some (.inr (.inl a)) :: l) st h P = Py scr m r (l0 :: l1 :: l2 :: l3 :: some (.inr (.inl a)) :: l) (.inr (.inl a) :: st) h P := py_step rfl rfl ⟨rfl, rfl⟩ (fun _ => rfl)
theorem py_lload5 {l0 l1 l2 l3 l4 : Option AV} {a : Int} {l : Lc} {x : List Nat} : Py scr m ((pc, .lload 5, x) :: r) (l0 :: l1 :: l2 :: l3 :: l4 :: some (.inr (.inl a)) :: l) st h P = Py scr m r (l0 :: l1 :: l2 :: l3 :: l4 :: some (.inr (.inl a)) :: l) (.inr (.inl a) :: st) h P := py_step rfl rfl ⟨rfl, rfl⟩ (fun _ => rfl)
theorem py_lload7 {l0 l1 l2 l3 l4 l5 l6 : Option AV} {a : Int} {l : Lc} {x : List Nat} : Py scr m ((pc, .lload 7, x) :: r) (l0 :: l1 :: l2 :: l3 :: l4 :: l5 :: l6 :: some (.inr (.inl a)) :: l) st h P = Py scr m r (l0 :: l1 :: l2 :: l3 :: l4 :: l5 :: l6 :: some (.inr (.inl a)) :: l) (.inr (.inl a) :: st) h P := py_step rfl rfl ⟨rfl, rfl⟩ (fun _ => rfl)
theorem py_lload9 {l0 l1 l2 l3 l4 l5 l6 l7 l8 : Option AV} {a : Int} {l : Lc} {x : List Nat} : Py scr m ((pc, .lload 9, x) :: r) (l0 :: l1 :: l2 :: l3 :: l4 :: l5 :: l6 :: l7 :: l8 :: some (.inr (.inl a)) :: l) st h P = Py scr m r (l0 :: l1 :: l2 :: l3 :: l4 :: l5 :: l6 :: l7 :: l8 :: some (.inr (.inl a)) :: l) (.inr (.inl a) :: st) h P := py_step rfl rfl ⟨rfl, rfl⟩ (fun _ => rfl)
theorem py_fload7 {l0 l1 l2 l3 l4 l5 l6 : Option AV} {a : UInt32} {l : Lc} {x : List Nat} : Py scr m ((pc, .fload 7, x) :: r) (l0 :: l1 :: l2 :: l3 :: l4 :: l5 :: l6 :: some (.inr (.inr (.inr (.inl a)))) :: l) st h P = Py scr m r (l0 :: l1 :: l2 :: l3 :: l4 :: l5 :: l6 :: some (.inr (.inr (.inr (.inl a)))) :: l) (.inr (.inr (.inr (.inl a))) :: st) h P := py_step rfl rfl ⟨rfl, rfl⟩ (fun _ => rfl)
theorem py_dload7 {l0 l1 l2 l3 l4 l5 l6 : Option AV} {a : UInt64} {l : Lc} {x : List Nat} : Py scr m ((pc, .dload 7, x) :: r) (l0 :: l1 :: l2 :: l3 :: l4 :: l5 :: l6 :: some (.inr (.inr (.inr (.inr (.inl a))))) :: l) st h P = Py scr m r (l0 :: l1 :: l2 :: l3 :: l4 :: l5 :: l6 :: some (.inr (.inr (.inr (.inr (.inl a))))) :: l) (.inr (.inr (.inr (.inr (.inl a)))) :: st) h P := py_step rfl rfl ⟨rfl, rfl⟩ (fun _ => rfl)
theorem py_aloadR0 {a : Option Nat} {l : Lc} {x : List Nat} : Py scr m ((pc, .aload 0, x) :: r) (some (.inr (.inr (.inl a))) :: l) st h P = Py scr m r (some (.inr (.inr (.inl a))) :: l) (.inr (.inr (.inl a)) :: st) h P := py_step rfl rfl ⟨rfl, rfl⟩ (fun _ => rfl)
theorem py_aloadM0 {a : Nat} {l : Lc} {x : List Nat} : Py scr m ((pc, .aload 0, x) :: r) (some (.inr (.inr (.inr (.inr (.inr a))))) :: l) st h P = Py scr m r (some (.inr (.inr (.inr (.inr (.inr a))))) :: l) (.inr (.inr (.inr (.inr (.inr a)))) :: st) h P := py_step rfl rfl ⟨rfl, rfl⟩ (fun _ => rfl)
theorem py_aloadR1 {l0 : Option AV} {a : Option Nat} {l : Lc} {x : List Nat} : Py scr m ((pc, .aload 1, x) :: r) (l0 :: some (.inr (.inr (.inl a))) :: l) st h P = Py scr m r (l0 :: some (.inr (.inr (.inl a))) :: l) (.inr (.inr (.inl a)) :: st) h P := py_step rfl rfl ⟨rfl, rfl⟩ (fun _ => rfl)
theorem py_aloadM1 {l0 : Option AV} {a : Nat} {l : Lc} {x : List Nat} : Py scr m ((pc, .aload 1, x) :: r) (l0 :: some (.inr (.inr (.inr (.inr (.inr a))))) :: l) st h P = Py scr m r (l0 :: some (.inr (.inr (.inr (.inr (.inr a))))) :: l) (.inr (.inr (.inr (.inr (.inr a)))) :: st) h P := py_step rfl rfl ⟨rfl, rfl⟩ (fun _ => rfl)
theorem py_aloadR2 {l0 l1 : Option AV} {a : Option Nat} {l : Lc} {x : List Nat} : Py scr m ((pc, .aload 2, x) :: r) (l0 :: l1 :: some (.inr (.inr (.inl a))) :: l) st h P = Py scr m r (l0 :: l1 :: some (.inr (.inr (.inl a))) :: l) (.inr (.inr (.inl a)) :: st) h P := py_step rfl rfl ⟨rfl, rfl⟩ (fun _ => rfl)
theorem py_aloadM2 {l0 l1 : Option AV} {a : Nat} {l : Lc} {x : List Nat} : Py scr m ((pc, .aload 2, x) :: r) (l0 :: l1 :: some (.inr (.inr (.inr (.inr (.inr a))))) :: l) st h P = Py scr m r (l0 :: l1 :: some (.inr (.inr (.inr (.inr (.inr a))))) :: l) (.inr (.inr (.inr (.inr (.inr a)))) :: st) h P := py_step rfl rfl ⟨rfl, rfl⟩ (fun _ => rfl)
theorem py_aloadR3 {l0 l1 l2 : Option AV} {a : Option Nat} {l : Lc} {x : List Nat} : Py scr m ((pc, .aload 3, x) :: r) (l0 :: l1 :: l2 :: some (.inr (.inr (.inl a))) :: l) st h P = Py scr m r (l0 :: l1 :: l2 :: some (.inr (.inr (.inl a))) :: l) (.inr (.inr (.inl a)) :: st) h P := py_step rfl rfl ⟨rfl, rfl⟩ (fun _ => rfl)
theorem py_aloadM3 {l0 l1 l2 : Option AV} {a : Nat} {l : Lc} {x : List Nat} : Py scr m ((pc, .aload 3, x) :: r) (l0 :: l1 :: l2 :: some (.inr (.inr (.inr (.inr (.inr a))))) :: l) st h P = Py scr m r (l0 :: l1 :: l2 :: some (.inr (.inr (.inr (.inr (.inr a))))) :: l) (.inr (.inr (.inr (.inr (.inr a)))) :: st) h P := py_step rfl rfl ⟨rfl, rfl⟩ (fun _ => rfl)
theorem py_aloadR4 {l0 l1 l2 l3 : Option AV} {a : Option Nat} {l : Lc} {x : List Nat} : Py scr m ((pc, .aload 4, x) :: r) (l0 :: l1 :: l2 :: l3 :: some (.inr (.inr (.inl a))) :: l) st h P = Py scr m r (l0 :: l1 :: l2 :: l3 :: some (.inr (.inr (.inl a))) :: l) (.inr (.inr (.inl a)) :: st) h P := py_step rfl rfl ⟨rfl, rfl⟩ (fun _ => rfl)
theorem py_aloadM4 {l0 l1 l2 l3 : Option AV} {a : Nat} {l : Lc} {x : List Nat} : Py scr m ((pc, .aload 4, x) :: r) (l0 :: l1 :: l2 :: l3 :: some (.inr (.inr (.inr (.inr (.inr a))))) :: l) st h P = Py scr m r (l0 :: l1 :: l2 :: l3 :: some (.inr (.inr (.inr (.inr (.inr a))))) :: l) (.inr (.inr (.inr (.inr (.inr a)))) :: st) h P := py_step rfl rfl ⟨rfl, rfl⟩ (fun _ => rfl)
theorem py_aloadR5 {l0 l1 l2 l3 l4 : Option AV} {a : Option Nat} {l : Lc} {x : List Nat} : Py scr m ((pc, .aload 5, x) :: r) (l0 :: l1 :: l2 :: l3 :: l4 :: some (.inr (.inr (.inl a))) :: l) st h P = Py scr m r (l0 :: l1 :: l2 :: l3 :: l4 :: some (.inr (.inr (.inl a))) :: l) (.inr (.inr (.inl a)) :: st) h P := py_step rfl rfl ⟨rfl, rfl⟩ (fun _ => rfl)
theorem py_aloadM5 {l0 l1 l2 l3 l4 : Option AV} {a : Nat} {l : Lc} {x : List Nat} : Py scr m ((pc, .aload 5, x) :: r) (l0 :: l1 :: l2 :: l3 :: l4 :: some (.inr (.inr (.inr (.inr (.inr a))))) :: l) st h P = Py scr m r (l0 :: l1 :: l2 :: l3 :: l4 :: some (.inr (.inr (.inr (.inr (.inr a))))) :: l) (.inr (.inr (.inr (.inr (.inr a)))) :: st) h P := py_step rfl rfl ⟨rfl, rfl⟩ (fun _ => rfl)
theorem py_aloadR6 {l0 l1 l2 l3 l4 l5 : Option AV} {a : Option Nat} {l : Lc} {x : List Nat} : Py scr m ((pc, .aload 6, x) :: r) (l0 :: l1 :: l2 :: l3 :: l4 :: l5 :: some (.inr (.inr (.inl a))) :: l) st h P = Py scr m r (l0 :: l1 :: l2 :: l3 :: l4 :: l5 :: some (.inr (.inr (.inl a))) :: l) (.inr (.inr (.inl a)) :: st) h P := py_step rfl rfl ⟨rfl, rfl⟩ (fun _ => rfl)
theorem py_aloadM6 {l0 l1 l2 l3 l4 l5 : Option AV} {a : Nat} {l : Lc} {x : List Nat} : Py scr m ((pc, .aload 6, x) :: r) (l0 :: l1 :: l2 :: l3 :: l4 :: l5 :: some (.inr (.inr (.inr (.inr (.inr a))))) :: l) st h P = Py scr m r (l0 :: l1 :: l2 :: l3 :: l4 :: l5 :: some (.inr (.inr (.inr (.inr (.inr a))))) :: l) (.inr (.inr (.inr (.inr (.inr a)))) :: st) h P := py_step rfl rfl ⟨rfl, rfl⟩ (fun _ => rfl)
theorem py_aloadR7 {l0 l1 l2 l3 l4 l5 l6 : Option AV} {a : Option Nat} {l : Lc} {x : List Nat} : Py scr m ((pc, .aload 7, x) :: r) (l0 :: l1 :: l2 :: l3 :: l4 :: l5 :: l6 :: some (.inr (.inr (.inl a))) :: l) st h P = Py scr m r (l0 :: l1 :: l2 :: l3 :: l4 :: l5 :: l6 :: some (.inr (.inr (.inl a))) :: l) (.inr (.inr (.inl a)) :: st) h P := py_step rfl rfl ⟨rfl, rfl⟩ (fun _ => rfl)
theorem py_aloadM7 {l0 l1 l2 l3 l4 l5 l6 : Option AV} {a : Nat} {l : Lc} {x : List Nat} : Py scr m ((pc, .aload 7, x) :: r) (l0 :: l1 :: l2 :: l3 :: l4 :: l5 :: l6 :: some (.inr (.inr (.inr (.inr (.inr a))))) :: l) st h P = Py scr m r (l0 :: l1 :: l2 :: l3 :: l4 :: l5 :: l6 :: some (.inr (.inr (.inr (.inr (.inr a))))) :: l) (.inr (.inr (.inr (.inr (.inr a)))) :: st) h P := py_step rfl rfl ⟨rfl, rfl⟩ (fun _ => rfl)
theorem py_aloadR8 {l0 l1 l2 l3 l4 l5 l6 l7 : Option AV} {a : Option Nat} {l : Lc} {x : List Nat} : Py scr m ((pc, .aload 8, x) :: r) (l0 :: l1 :: l2 :: l3 :: l4 :: l5 :: l6 :: l7 :: some (.inr (.inr (.inl a))) :: l) st h P = Py scr m r (l0 :: l1 :: l2 :: l3 :: l4 :: l5 :: l6 :: l7 :: some (.inr (.inr (.inl a))) :: l) (.inr (.inr (.inl a)) :: st) h P := py_step rfl rfl ⟨rfl, rfl⟩ (fun _ => rfl)
theorem py_aloadM8 {l0 l1 l2 l3 l4 l5 l6 l7 : Option AV} {a : Nat} {l : Lc} {x : List Nat} : Py scr m ((pc, .aload 8, x) :: r) (l0 :: l1 :: l2 :: l3 :: l4 :: l5 :: l6 :: l7 :: some (.inr (.inr (.inr (.inr (.inr a))))) :: l) st h P = Py scr m r (l0 :: l1 :: l2 :: l3 :: l4 :: l5 :: l6 :: l7 :: some (.inr (.inr (.inr (.inr (.inr a))))) :: l) (.inr (.inr (.inr (.inr (.inr a)))) :: st) h P := py_step rfl rfl ⟨rfl, rfl⟩ (fun _ => rfl)
theorem py_aloadR10 {l0 l1 l2 l3 l4 l5 l6 l7 l8 l9 : Option AV} {a : Option Nat} {l : Lc} {x : List Nat} : Py scr m ((pc, .aload 10, x) :: r) (l0 :: l1 :: l2 :: l3 :: l4 :: l5 :: l6 :: l7 :: l8 :: l9 :: some (.inr (.inr (.inl a))) :: l) st h P = Py scr m r (l0 :: l1 :: l2 :: l3 :: l4 :: l5 :: l6 :: l7 :: l8 :: l9 :: some (.inr (.inr (.inl a))) :: l) (.inr (.inr (.inl a)) :: st) h P := py_step rfl rfl ⟨rfl, rfl⟩ (fun _ => rfl)
theorem py_aloadM10 {l0 l1 l2 l3 l4 l5 l6 l7 l8 l9 : Option AV} {a : Nat} {l : Lc} {x : List Nat} : Py scr m ((pc, .aload 10, x) :: r) (l0 :: l1 :: l2 :: l3 :: l4 :: l5 :: l6 :: l7 :: l8 :: l9 :: some (.inr (.inr (.inr (.inr (.inr a))))) :: l) st h P = Py scr m r (l0 :: l1 :: l2 :: l3 :: l4 :: l5 :: l6 :: l7 :: l8 :: l9 :: some (.inr (.inr (.inr (.inr (.inr a))))) :: l) (.inr (.inr (.inr (.inr (.inr a)))) :: st) h P := py_step rfl rfl ⟨rfl, rfl⟩ (fun _ => rfl)
theorem py_aloadR11 {l0 l1 l2 l3 l4 l5 l6 l7 l8 l9 l10 : Option AV} {a : Option Nat} {l : Lc} {x : List Nat} : Py scr m ((pc, .aload 11, x) :: r) (l0 :: l1 :: l2 :: l3 :: l4 :: l5 :: l6 :: l7 :: l8 :: l9 :: l10 :: some (.inr (.inr (.inl a))) :: l) st h P = Py scr m r (l0 :: l1 :: l2 :: l3 :: l4 :: l5 :: l6 :: l7 :: l8 :: l9 :: l10 :: some (.inr (.inr (.inl a))) :: l) (.inr (.inr (.inl a)) :: st) h P := py_step rfl rfl ⟨rfl, rfl⟩ (fun _ => rfl)
theorem py_aloadM11 {l0 l1 l2 l3 l4 l5 l6 l7 l8 l9 l10 : Option AV} {a : Nat} {l : Lc} {x : List Nat} : Py scr m ((pc, .aload 11, x) :: r) (l0 :: l1 :: l2 :: l3 :: l4 :: l5 :: l6 :: l7 :: l8 :: l9 :: l10 :: some (.inr (.inr (.inr (.inr (.inr a))))) :: l) st h P = Py scr m r (l0 :: l1 :: l2 :: l3 :: l4 :: l5 :: l6 :: l7 :: l8 :: l9 :: l10 :: some (.inr (.inr (.inr (.inr (.inr a))))) :: l) (.inr (.inr (.inr (.inr (.inr a)))) :: st) h P := py_step rfl rfl ⟨rfl, rfl⟩ (fun _ => rfl)
theorem py_sI {k : Nat} {a : Int} {ls1 : Lc} {x : List Nat} (hz : zset ls k (.inl a) = some ls1) : Py scr m ((pc, .istore k, x) :: r) ls (.inl a :: st) h P = Py scr m r ls1 st h P := py_step rfl rfl ⟨rfl, rfl⟩ (fun _ => by dsimp only [zstp]; rw [hz]; rfl)
theorem py_sL {k : Nat} {a : Int} {ls1 : Lc} {x : List Nat} (hz : zset ls k (.inr (.inl a)) = some ls1) : Py scr m ((pc, .lstore k, x) :: r) ls (.inr (.inl a) :: st) h P = Py scr m r ls1 st h P := py_step rfl rfl ⟨rfl, rfl⟩ (fun _ => by dsimp only [zstp]; rw [hz]; rfl)
theorem py_sF {k : Nat} {a : UInt32} {ls1 : Lc} {x : List Nat} (hz : zset ls k (.inr (.inr (.inr (.inl a)))) = some ls1) : Py scr m ((pc, .fstore k, x) :: r) ls (.inr (.inr (.inr (.inl a))) :: st) h P = Py scr m r ls1 st h P := py_step rfl rfl ⟨rfl, rfl⟩ (fun _ => by dsimp only [zstp]; rw [hz]; rfl)
theorem py_sD {k : Nat} {a : UInt64} {ls1 : Lc} {x : List Nat} (hz : zset ls k (.inr (.inr (.inr (.inr (.inl a))))) = some ls1) : Py scr m ((pc, .dstore k, x) :: r) ls (.inr (.inr (.inr (.inr (.inl a)))) :: st) h P = Py scr m r ls1 st h P := py_step rfl rfl ⟨rfl, rfl⟩ (fun _ => by dsimp only [zstp]; rw [hz]; rfl)
theorem py_sR {k : Nat} {a : Option Nat} {ls1 : Lc} {x : List Nat} (hz : zset ls k (.inr (.inr (.inl a))) = some ls1) : Py scr m ((pc, .astore k, x) :: r) ls (.inr (.inr (.inl a)) :: st) h P = Py scr m r ls1 st h P := py_step rfl rfl ⟨rfl, rfl⟩ (fun _ => by dsimp only [zstp]; rw [hz]; rfl)
theorem py_sM {k : Nat} {a : Nat} {ls1 : Lc} {x : List Nat} (hz : zset ls k (.inr (.inr (.inr (.inr (.inr a))))) = some ls1) : Py scr m ((pc, .astore k, x) :: r) ls (.inr (.inr (.inr (.inr (.inr a)))) :: st) h P = Py scr m r ls1 st h P := py_step rfl rfl ⟨rfl, rfl⟩ (fun _ => by dsimp only [zstp]; rw [hz]; rfl)
theorem py_sC {k : Nat} {a d : Int} {ls1 : Lc} {x : List Nat} (hl : ls.getD k none = some (.inl a) ∧ zset ls k (.inl (a + d)) = some ls1) : Py scr m ((pc, .iinc k d, x) :: r) ls st h P = Py scr m r ls1 st h P := py_step rfl rfl ⟨rfl, rfl⟩ (fun _ => by dsimp only [zstp]; rw [hl.1]; dsimp only; rw [hl.2]; rfl)
theorem py_istore1N {u : Option AV} {a : Int} {l : Lc} {x : List Nat} : Py scr m ((pc, .istore 1, x) :: r) (none :: u :: l) (.inl a :: st) h P = Py scr m r (none :: some (.inl a) :: l) st h P := py_sI (by simp [zset, zwide, zclean])
theorem py_istore1I {b : Int} {u : Option AV} {a : Int} {l : Lc} {x : List Nat} : Py scr m ((pc, .istore 1, x) :: r) (some (.inl b) :: u :: l) (.inl a :: st) h P = Py scr m r (some (.inl b) :: some (.inl a) :: l) st h P := py_sI (by simp [zset, zwide, zclean])
theorem py_istore1R {b : Option Nat} {u : Option AV} {a : Int} {l : Lc} {x : List Nat} : Py scr m ((pc, .istore 1, x) :: r) (some (.inr (.inr (.inl b))) :: u :: l) (.inl a :: st) h P = Py scr m r (some (.inr (.inr (.inl b))) :: some (.inl a) :: l) st h P := py_sI (by simp [zset, zwide, zclean])
theorem py_istore1M {b : Nat} {u : Option AV} {a : Int} {l : Lc} {x : List Nat} : Py scr m ((pc, .istore 1, x) :: r) (some (.inr (.inr (.inr (.inr (.inr b))))) :: u :: l) (.inl a :: st) h P = Py scr m r (some (.inr (.inr (.inr (.inr (.inr b))))) :: some (.inl a) :: l) st h P := py_sI (by simp [zset, zwide, zclean])
theorem py_istore2N {l0 : Option AV} {u : Option AV} {a : Int} {l : Lc} {x : List Nat} : Py scr m ((pc, .istore 2, x) :: r) (l0 :: none :: u :: l) (.inl a :: st) h P = Py scr m r (l0 :: none :: some (.inl a) :: l) st h P := py_sI (by simp [zset, zwide, zclean])
theorem py_istore2I {l0 : Option AV} {b : Int} {u : Option AV} {a : Int} {l : Lc} {x : List Nat} : Py scr m ((pc, .istore 2, x) :: r) (l0 :: some (.inl b) :: u :: l) (.inl a :: st) h P = Py scr m r (l0 :: some (.inl b) :: some (.inl a) :: l) st h P := py_sI (by simp [zset, zwide, zclean])
theorem py_istore2R {l0 : Option AV} {b : Option Nat} {u : Option AV} {a : Int} {l : Lc} {x : List Nat} : Py scr m ((pc, .istore 2, x) :: r) (l0 :: some (.inr (.inr (.inl b))) :: u :: l) (.inl a :: st) h P = Py scr m r (l0 :: some (.inr (.inr (.inl b))) :: some (.inl a) :: l) st h P := py_sI (by simp [zset, zwide, zclean])
theorem py_istore2M {l0 : Option AV} {b : Nat} {u : Option AV} {a : Int} {l : Lc} {x : List Nat} : Py scr m ((pc, .istore 2, x) :: r) (l0 :: some (.inr (.inr (.inr (.inr (.inr b))))) :: u :: l) (.inl a :: st) h P = Py scr m r (l0 :: some (.inr (.inr (.inr (.inr (.inr b))))) :: some (.inl a) :: l) st h P := py_sI (by simp [zset, zwide, zclean])
theorem py_istore3N {l0 l1 : Option AV} {u : Option AV} {a : Int} {l : Lc} {x : List Nat} : Py scr m ((pc, .istore 3, x) :: r) (l0 :: l1 :: none :: u :: l) (.inl a :: st) h P = Py scr m r (l0 :: l1 :: none :: some (.inl a) :: l) st h P := py_sI (by simp [zset, zwide, zclean])
theorem py_istore3I {l0 l1 : Option AV} {b : Int} {u : Option AV} {a : Int} {l : Lc} {x : List Nat} : Py scr m ((pc, .istore 3, x) :: r) (l0 :: l1 :: some (.inl b) :: u :: l) (.inl a :: st) h P = Py scr m r (l0 :: l1 :: some (.inl b) :: some (.inl a) :: l) st h P := py_sI (by simp [zset, zwide, zclean])
theorem py_istore3R {l0 l1 : Option AV} {b : Option Nat} {u : Option AV} {a : Int} {l : Lc} {x : List Nat} : Py scr m ((pc, .istore 3, x) :: r) (l0 :: l1 :: some (.inr (.inr (.inl b))) :: u :: l) (.inl a :: st) h P = Py scr m r (l0 :: l1 :: some (.inr (.inr (.inl b))) :: some (.inl a) :: l) st h P := py_sI (by simp [zset, zwide, zclean])
theorem py_istore3M {l0 l1 : Option AV} {b : Nat} {u : Option AV} {a : Int} {l : Lc} {x : List Nat} : Py scr m ((pc, .istore 3, x) :: r) (l0 :: l1 :: some (.inr (.inr (.inr (.inr (.inr b))))) :: u :: l) (.inl a :: st) h P = Py scr m r (l0 :: l1 :: some (.inr (.inr (.inr (.inr (.inr b))))) :: some (.inl a) :: l) st h P := py_sI (by simp [zset, zwide, zclean])
theorem py_istore4N {l0 l1 l2 : Option AV} {u : Option AV} {a : Int} {l : Lc} {x : List Nat} : Py scr m ((pc, .istore 4, x) :: r) (l0 :: l1 :: l2 :: none :: u :: l) (.inl a :: st) h P = Py scr m r (l0 :: l1 :: l2 :: none :: some (.inl a) :: l) st h P := py_sI (by simp [zset, zwide, zclean])
theorem py_istore4I {l0 l1 l2 : Option AV} {b : Int} {u : Option AV} {a : Int} {l : Lc} {x : List Nat} : Py scr m ((pc, .istore 4, x) :: r) (l0 :: l1 :: l2 :: some (.inl b) :: u :: l) (.inl a :: st) h P = Py scr m r (l0 :: l1 :: l2 :: some (.inl b) :: some (.inl a) :: l) st h P := py_sI (by simp [zset, zwide, zclean])
theorem py_istore4R {l0 l1 l2 : Option AV} {b : Option Nat} {u : Option AV} {a : Int} {l : Lc} {x : List Nat} : Py scr m ((pc, .istore 4, x) :: r) (l0 :: l1 :: l2 :: some (.inr (.inr (.inl b))) :: u :: l) (.inl a :: st) h P = Py scr m r (l0 :: l1 :: l2 :: some (.inr (.inr (.inl b))) :: some (.inl a) :: l) st h P := py_sI (by simp [zset, zwide, zclean])
theorem py_istore4M {l0 l1 l2 : Option AV} {b : Nat} {u : Option AV} {a : Int} {l : Lc} {x : List Nat} : Py scr m ((pc, .istore 4, x) :: r) (l0 :: l1 :: l2 :: some (.inr (.inr (.inr (.inr (.inr b))))) :: u :: l) (.inl a :: st) h P = Py scr m r (l0 :: l1 :: l2 :: some (.inr (.inr (.inr (.inr (.inr b))))) :: some (.inl a) :: l) st h P := py_sI (by simp [zset, zwide, zclean])
theorem py_istore5N {l0 l1 l2 l3 : Option AV} {u : Option AV} {a : Int} {l : Lc} {x : List Nat} : Py scr m ((pc, .istore 5, x) :: r) (l0 :: l1 :: l2 :: l3 :: none :: u :: l) (.inl a :: st) h P = Py scr m r (l0 :: l1 :: l2 :: l3 :: none :: some (.inl a) :: l) st h P := py_sI (by simp [zset, zwide, zclean])
theorem py_istore5I {l0 l1 l2 l3 : Option AV} {b : Int} {u : Option AV} {a : Int} {l : Lc} {x : List Nat} : Py scr m ((pc, .istore 5, x) :: r) (l0 :: l1 :: l2 :: l3 :: some (.inl b) :: u :: l) (.inl a :: st) h P = Py scr m r (l0 :: l1 :: l2 :: l3 :: some (.inl b) :: some (.inl a) :: l) st h P := py_sI (by simp [zset, zwide, zclean])
theorem py_istore5R {l0 l1 l2 l3 : Option AV} {b : Option Nat} {u : Option AV} {a : Int} {l : Lc} {x : List Nat} : Py scr m ((pc, .istore 5, x) :: r) (l0 :: l1 :: l2 :: l3 :: some (.inr (.inr (.inl b))) :: u :: l) (.inl a :: st) h P = Py scr m r (l0 :: l1 :: l2 :: l3 :: some (.inr (.inr (.inl b))) :: some (.inl a) :: l) st h P := py_sI (by simp [zset, zwide, zclean])
theorem py_istore5M {l0 l1 l2 l3 : Option AV} {b : Nat} {u : Option AV} {a : Int} {l : Lc} {x : List Nat} : Py scr m ((pc, .istore 5, x) :: r) (l0 :: l1 :: l2 :: l3 :: some (.inr (.inr (.inr (.inr (.inr b))))) :: u :: l) (.inl a :: st) h P = Py scr m r (l0 :: l1 :: l2 :: l3 :: some (.inr (.inr (.inr (.inr (.inr b))))) :: some (.inl a) :: l) st h P := py_sI (by simp [zset, zwide, zclean])
theorem py_istore6N {l0 l1 l2 l3 l4 : Option AV} {u : Option AV} {a : Int} {l : Lc} {x : List Nat} : Py scr m ((pc, .istore 6, x) :: r) (l0 :: l1 :: l2 :: l3 :: l4 :: none :: u :: l) (.inl a :: st) h P = Py scr m r (l0 :: l1 :: l2 :: l3 :: l4 :: none :: some (.inl a) :: l) st h P := py_sI (by simp [zset, zwide, zclean])
theorem py_istore6I {l0 l1 l2 l3 l4 : Option AV} {b : Int} {u : Option AV} {a : Int} {l : Lc} {x : List Nat} : Py scr m ((pc, .istore 6, x) :: r) (l0 :: l1 :: l2 :: l3 :: l4 :: some (.inl b) :: u :: l) (.inl a :: st) h P = Py scr m r (l0 :: l1 :: l2 :: l3 :: l4 :: some (.inl b) :: some (.inl a) :: l) st h P := py_sI (by simp [zset, zwide, zclean])
theorem py_istore6R {l0 l1 l2 l3 l4 : Option AV} {b : Option Nat} {u : Option AV} {a : Int} {l : Lc} {x : List Nat} : Py scr m ((pc, .istore 6, x) :: r) (l0 :: l1 :: l2 :: l3 :: l4 :: some (.inr (.inr (.inl b))) :: u :: l) (.inl a :: st) h P = Py scr m r (l0 :: l1 :: l2 :: l3 :: l4 :: some (.inr (.inr (.inl b))) :: some (.inl a) :: l) st h P := py_sI (by simp [zset, zwide, zclean])
theorem py_istore6M {l0 l1 l2 l3 l4 : Option AV} {b : Nat} {u : Option AV} {a : Int} {l : Lc} {x : List Nat} : Py scr m ((pc, .istore 6, x) :: r) (l0 :: l1 :: l2 :: l3 :: l4 :: some (.inr (.inr (.inr (.inr (.inr b))))) :: u :: l) (.inl a :: st) h P = Py scr m r (l0 :: l1 :: l2 :: l3 :: l4 :: some (.inr (.inr (.inr (.inr (.inr b))))) :: some (.inl a) :: l) st h P := py_sI (by simp [zset, zwide, zclean])
theorem py_istore7N {l0 l1 l2 l3 l4 l5 : Option AV} {u : Option AV} {a : Int} {l : Lc} {x : List Nat} : Py scr m ((pc, .istore 7, x) :: r) (l0 :: l1 :: l2 :: l3 :: l4 :: l5 :: none :: u :: l) (.inl a :: st) h P = Py scr m r (l0 :: l1 :: l2 :: l3 :: l4 :: l5 :: none :: some (.inl a) :: l) st h P := py_sI (by simp [zset, zwide, zclean])
theorem py_istore7I {l0 l1 l2 l3 l4 l5 : Option AV} {b : Int} {u : Option AV} {a : Int} {l : Lc} {x : List Nat} : Py scr m ((pc, .istore 7, x) :: r) (l0 :: l1 :: l2 :: l3 :: l4 :: l5 :: some (.inl b) :: u :: l) (.inl a :: st) h P = Py scr m r (l0 :: l1 :: l2 :: l3 :: l4 :: l5 :: some (.inl b) :: some (.inl a) :: l) st h P := py_sI (by simp [zset, zwide, zclean])
theorem py_istore7R {l0 l1 l2 l3 l4 l5 : Option AV} {b : Option Nat} {u : Option AV} {a : Int} {l : Lc} {x : List Nat} : Py scr m ((pc, .istore 7, x) :: r) (l0 :: l1 :: l2 :: l3 :: l4 :: l5 :: some (.inr (.inr (.inl b))) :: u :: l) (.inl a :: st) h P = Py scr m r (l0 :: l1 :: l2 :: l3 :: l4 :: l5 :: some (.inr (.inr (.inl b))) :: some (.inl a) :: l) st h P := py_sI (by simp [zset, zwide, zclean])
theorem py_istore7M {l0 l1 l2 l3 l4 l5 : Option AV} {b : Nat} {u : Option AV} {a : Int} {l : Lc} {x : List Nat} : Py scr m ((pc, .istore 7, x) :: r) (l0 :: l1 :: l2 :: l3 :: l4 :: l5 :: some (.inr (.inr (.inr (.inr (.inr b))))) :: u :: l) (.inl a :: st) h P = Py scr m r (l0 :: l1 :: l2 :: l3 :: l4 :: l5 :: some (.inr (.inr (.inr (.inr (.inr b))))) :: some (.inl a) :: l) st h P := py_sI (by simp [zset, zwide, zclean])
theorem py_istore8N {l0 l1 l2 l3 l4 l5 l6 : Option AV} {u : Option AV} {a : Int} {l : Lc} {x : List Nat} : Py scr m ((pc, .istore 8, x) :: r) (l0 :: l1 :: l2 :: l3 :: l4 :: l5 :: l6 :: none :: u :: l) (.inl a :: st) h P = Py scr m r (l0 :: l1 :: l2 :: l3 :: l4 :: l5 :: l6 :: none :: some (.inl a) :: l) st h P := py_sI (by simp [zset, zwide, zclean])
theorem py_istore8I {l0 l1 l2 l3 l4 l5 l6 : Option AV} {b : Int} {u : Option AV} {a : Int} {l : Lc} {x : List Nat} : Py scr m ((pc, .istore 8, x) :: r) (l0 :: l1 :: l2 :: l3 :: l4 :: l5 :: l6 :: some (.inl b) :: u :: l) (.inl a :: st) h P = Py scr m r (l0 :: l1 :: l2 :: l3 :: l4 :: l5 :: l6 :: some (.inl b) :: some (.inl a) :: l) st h P := py_sI (by simp [zset, zwide, zclean])
theorem py_istore8R {l0 l1 l2 l3 l4 l5 l6 : Option AV} {b : Option Nat} {u : Option AV} {a : Int} {l : Lc} {x : List Nat} : Py scr m ((pc, .istore 8, x) :: r) (l0 :: l1 :: l2 :: l3 :: l4 :: l5 :: l6 :: some (.inr (.inr (.inl b))) :: u :: l) (.inl a :: st) h P = Py scr m r (l0 :: l1 :: l2 :: l3 :: l4 :: l5 :: l6 :: some (.inr (.inr (.inl b))) :: some (.inl a) :: l) st h P := py_sI (by simp [zset, zwide, zclean])
theorem py_istore8M {l0 l1 l2 l3 l4 l5 l6 : Option AV} {b : Nat} {u : Option AV} {a : Int} {l : Lc} {x : List Nat} : Py scr m ((pc, .istore 8, x) :: r) (l0 :: l1 :: l2 :: l3 :: l4 :: l5 :: l6 :: some (.inr (.inr (.inr (.inr (.inr b))))) :: u :: l) (.inl a :: st) h P = Py scr m r (l0 :: l1 :: l2 :: l3 :: l4 :: l5 :: l6 :: some (.inr (.inr (.inr (.inr (.inr b))))) :: some (.inl a) :: l) st h P := py_sI (by simp [zset, zwide, zclean])
theorem py_istore9N {l0 l1 l2 l3 l4 l5 l6 l7 : Option AV} {u : Option AV} {a : Int} {l : Lc} {x : List Nat} : Py scr m ((pc, .istore 9, x) :: r) (l0 :: l1 :: l2 :: l3 :: l4 :: l5 :: l6 :: l7 :: none :: u :: l) (.inl a :: st) h P = Py scr m r (l0 :: l1 :: l2 :: l3 :: l4 :: l5 :: l6 :: l7 :: none :: some (.inl a) :: l) st h P := py_sI (by simp [zset, zwide, zclean])
theorem py_istore9I {l0 l1 l2 l3 l4 l5 l6 l7 : Option AV} {b : Int} {u : Option AV} {a : Int} {l : Lc} {x : List Nat} : Py scr m ((pc, .istore 9, x) :: r) (l0 :: l1 :: l2 :: l3 :: l4 :: l5 :: l6 :: l7 :: some (.inl b) :: u :: l) (.inl a :: st) h P = Py scr m r (l0 :: l1 :: l2 :: l3 :: l4 :: l5 :: l6 :: l7 :: some (.inl b) :: some (.inl a) :: l) st h P := py_sI (by simp [zset, zwide, zclean])
theorem py_istore9R {l0 l1 l2 l3 l4 l5 l6 l7 : Option AV} {b : Option Nat} {u : Option AV} {a : Int} {l : Lc} {x : List Nat} : Py scr m ((pc, .istore 9, x) :: r) (l0 :: l1 :: l2 :: l3 :: l4 :: l5 :: l6 :: l7 :: some (.inr (.inr (.inl b))) :: u :: l) (.inl a :: st) h P = Py scr m r (l0 :: l1 :: l2 :: l3 :: l4 :: l5 :: l6 :: l7 :: some (.inr (.inr (.inl b))) :: some (.inl a) :: l) st h P := py_sI (by simp [zset, zwide, zclean])
theorem py_istore9M {l0 l1 l2 l3 l4 l5 l6 l7 : Option AV} {b : Nat} {u : Option AV} {a : Int} {l : Lc} {x : List Nat} : Py scr m ((pc, .istore 9, x) :: r) (l0 :: l1 :: l2 :: l3 :: l4 :: l5 :: l6 :: l7 :: some (.inr (.inr (.inr (.inr (.inr b))))) :: u :: l) (.inl a :: st) h P = Py scr m r (l0 :: l1 :: l2 :: l3 :: l4 :: l5 :: l6 :: l7 :: some (.inr (.inr (.inr (.inr (.inr b))))) :: some (.inl a) :: l) st h P := py_sI (by simp [zset, zwide, zclean])
theorem py_istore10N {l0 l1 l2 l3 l4 l5 l6 l7 l8 : Option AV} {u : Option AV} {a : Int} {l : Lc} {x : List Nat} : Py scr m ((pc, .istore 10, x) :: r) (l0 :: l1 :: l2 :: l3 :: l4 :: l5 :: l6 :: l7 :: l8 :: none :: u :: l) (.inl a :: st) h P = Py scr m r (l0 :: l1 :: l2 :: l3 :: l4 :: l5 :: l6 :: l7 :: l8 :: none :: some (.inl a) :: l) st h P := py_sI (by simp [zset, zwide, zclean])
theorem py_istore10I {l0 l1 l2 l3 l4 l5 l6 l7 l8 : Option AV} {b : Int} {u : Option AV} {a : Int} {l : Lc} {x : List Nat} : Py scr m ((pc, .istore 10, x) :: r) (l0 :: l1 :: l2 :: l3 :: l4 :: l5 :: l6 :: l7 :: l8 :: some (.inl b) :: u :: l) (.inl a :: st) h P = Py scr m r (l0 :: l1 :: l2 :: l3 :: l4 :: l5 :: l6 :: l7 :: l8 :: some (.inl b) :: some (.inl a) :: l) st h P := py_sI (by simp [zset, zwide, zclean])
theorem py_istore10R {l0 l1 l2 l3 l4 l5 l6 l7 l8 : Option AV} {b : Option Nat} {u : Option AV} {a : Int} {l : Lc} {x : List Nat} : Py scr m ((pc, .istore 10, x) :: r) (l0 :: l1 :: l2 :: l3 :: l4 :: l5 :: l6 :: l7 :: l8 :: some (.inr (.inr (.inl b))) :: u :: l) (.inl a :: st) h P = Py scr m r (l0 :: l1 :: l2 :: l3 :: l4 :: l5 :: l6 :: l7 :: l8 :: some (.inr (.inr (.inl b))) :: some (.inl a) :: l) st h P := py_sI (by simp [zset, zwide, zclean])
theorem py_istore10M {l0 l1 l2 l3 l4 l5 l6 l7 l8 : Option AV} {b : Nat} {u : Option AV} {a : Int} {l : Lc} {x : List Nat} : Py scr m ((pc, .istore 10, x) :: r) (l0 :: l1 :: l2 :: l3 :: l4 :: l5 :: l6 :: l7 :: l8 :: some (.inr (.inr (.inr (.inr (.inr b))))) :: u :: l) (.inl a :: st) h P = Py scr m r (l0 :: l1 :: l2 :: l3 :: l4 :: l5 :: l6 :: l7 :: l8 :: some (.inr (.inr (.inr (.inr (.inr b))))) :: some (.inl a) :: l) st h P := py_sI (by simp [zset, zwide, zclean])
theorem py_istore11N {l0 l1 l2 l3 l4 l5 l6 l7 l8 l9 : Option AV} {u : Option AV} {a : Int} {l : Lc} {x : List Nat} : Py scr m ((pc, .istore 11, x) :: r) (l0 :: l1 :: l2 :: l3 :: l4 :: l5 :: l6 :: l7 :: l8 :: l9 :: none :: u :: l) (.inl a :: st) h P = Py scr m r (l0 :: l1 :: l2 :: l3 :: l4 :: l5 :: l6 :: l7 :: l8 :: l9 :: none :: some (.inl a) :: l) st h P := py_sI (by simp [zset, zwide, zclean])
theorem py_istore11I {l0 l1 l2 l3 l4 l5 l6 l7 l8 l9 : Option AV} {b : Int} {u : Option AV} {a : Int} {l : Lc} {x : List Nat} : Py scr m ((pc, .istore 11, x) :: r) (l0 :: l1 :: l2 :: l3 :: l4 :: l5 :: l6 :: l7 :: l8 :: l9 :: some (.inl b) :: u :: l) (.inl a :: st) h P = Py scr m r (l0 :: l1 :: l2 :: l3 :: l4 :: l5 :: l6 :: l7 :: l8 :: l9 :: some (.inl b) :: some (.inl a) :: l) st h P := py_sI (by simp [zset, zwide, zclean])
theorem py_istore11R {l0 l1 l2 l3 l4 l5 l6 l7 l8 l9 : Option AV} {b : Option Nat} {u : Option AV} {a : Int} {l : Lc} {x : List Nat} : Py scr m ((pc, .istore 11, x) :: r) (l0 :: l1 :: l2 :: l3 :: l4 :: l5 :: l6 :: l7 :: l8 :: l9 :: some (.inr (.inr (.inl b))) :: u :: l) (.inl a :: st) h P = Py scr m r (l0 :: l1 :: l2 :: l3 :: l4 :: l5 :: l6 :: l7 :: l8 :: l9 :: some (.inr (.inr (.inl b))) :: some (.inl a) :: l) st h P := py_sI (by simp [zset, zwide, zclean])
theorem py_istore11M {l0 l1 l2 l3 l4 l5 l6 l7 l8 l9 : Option AV} {b : Nat} {u : Option AV} {a : Int} {l : Lc} {x : List Nat} : Py scr m ((pc, .istore 11, x) :: r) (l0 :: l1 :: l2 :: l3 :: l4 :: l5 :: l6 :: l7 :: l8 :: l9 :: some (.inr (.inr (.inr (.inr (.inr b))))) :: u :: l) (.inl a :: st) h P = Py scr m r (l0 :: l1 :: l2 :: l3 :: l4 :: l5 :: l6 :: l7 :: l8 :: l9 :: some (.inr (.inr (.inr (.inr (.inr b))))) :: some (.inl a) :: l) st h P := py_sI (by simp [zset, zwide, zclean])
theorem py_istore12N {l0 l1 l2 l3 l4 l5 l6 l7 l8 l9 l10 : Option AV} {u : Option AV} {a : Int} {l : Lc} {x : List Nat} : Py scr m ((pc, .istore 12, x) :: r) (l0 :: l1 :: l2 :: l3 :: l4 :: l5 :: l6 :: l7 :: l8 :: l9 :: l10 :: none :: u :: l) (.inl a :: st) h P = Py scr m r (l0 :: l1 :: l2 :: l3 :: l4 :: l5 :: l6 :: l7 :: l8 :: l9 :: l10 :: none :: some (.inl a) :: l) st h P := py_sI (by simp [zset, zwide, zclean])
theorem py_istore12I {l0 l1 l2 l3 l4 l5 l6 l7 l8 l9 l10 : Option AV} {b : Int} {u : Option AV} {a : Int} {l : Lc} {x : List Nat} : Py scr m ((pc, .istore 12, x) :: r) (l0 :: l1 :: l2 :: l3 :: l4 :: l5 :: l6 :: l7 :: l8 :: l9 :: l10 :: some (.inl b) :: u :: l) (.inl a :: st) h P = Py scr m r (l0 :: l1 :: l2 :: l3 :: l4 :: l5 :: l6 :: l7 :: l8 :: l9 :: l10 :: some (.inl b) :: some (.inl a) :: l) st h P := py_sI (by simp [zset, zwide, zclean])
theorem py_istore12R {l0 l1 l2 l3 l4 l5 l6 l7 l8 l9 l10 : Option AV} {b : Option Nat} {u : Option AV} {a : Int} {l : Lc} {x : List Nat} : Py scr m ((pc, .istore 12, x) :: r) (l0 :: l1 :: l2 :: l3 :: l4 :: l5 :: l6 :: l7 :: l8 :: l9 :: l10 :: some (.inr (.inr (.inl b))) :: u :: l) (.inl a :: st) h P = Py scr m r (l0 :: l1 :: l2 :: l3 :: l4 :: l5 :: l6 :: l7 :: l8 :: l9 :: l10 :: some (.inr (.inr (.inl b))) :: some (.inl a) :: l) st h P := py_sI (by simp [zset, zwide, zclean])
theorem py_istore12M {l0 l1 l2 l3 l4 l5 l6 l7 l8 l9 l10 : Option AV} {b : Nat} {u : Option AV} {a : Int} {l : Lc} {x : List Nat} : Py scr m ((pc, .istore 12, x) :: r) (l0 :: l1 :: l2 :: l3 :: l4 :: l5 :: l6 :: l7 :: l8 :: l9 :: l10 :: some (.inr (.inr (.inr (.inr (.inr b))))) :: u :: l) (.inl a :: st) h P = Py scr m r (l0 :: l1 :: l2 :: l3 :: l4 :: l5 :: l6 :: l7 :: l8 :: l9 :: l10 :: some (.inr (.inr (.inr (.inr (.inr b))))) :: some (.inl a) :: l) st h P := py_sI (by simp [zset, zwide, zclean])
theorem py_lstore1N {u w : Option AV} {a : Int} {l : Lc} {x : List Nat} : Py scr m ((pc, .lstore 1, x) :: r) (none :: u :: w :: l) (.inr (.inl a) :: st) h P = Py scr m r (none :: some (.inr (.inl a)) :: none :: l) st h P := py_sL (by simp [zset, zwide, zclean])
theorem py_lstore1I {b : Int} {u w : Option AV} {a : Int} {l : Lc} {x : List Nat} : Py scr m ((pc, .lstore 1, x) :: r) (some (.inl b) :: u :: w :: l) (.inr (.inl a) :: st) h P = Py scr m r (some (.inl b) :: some (.inr (.inl a)) :: none :: l) st h P := py_sL (by simp [zset, zwide, zclean])
theorem py_lstore1R {b : Option Nat} {u w : Option AV} {a : Int} {l : Lc} {x : List Nat} : Py scr m ((pc, .lstore 1, x) :: r) (some (.inr (.inr (.inl b))) :: u :: w :: l) (.inr (.inl a) :: st) h P = Py scr m r (some (.inr (.inr (.inl b))) :: some (.inr (.inl a)) :: none :: l) st h P := py_sL (by simp [zset, zwide, zclean])
theorem py_lstore1M {b : Nat} {u w : Option AV} {a : Int} {l : Lc} {x : List Nat} : Py scr m ((pc, .lstore 1, x) :: r) (some (.inr (.inr (.inr (.inr (.inr b))))) :: u :: w :: l) (.inr (.inl a) :: st) h P = Py scr m r (some (.inr (.inr (.inr (.inr (.inr b))))) :: some (.inr (.inl a)) :: none :: l) st h P := py_sL (by simp [zset, zwide, zclean])
theorem py_lstore2N {l0 : Option AV} {u w : Option AV} {a : Int} {l : Lc} {x : List Nat} : Py scr m ((pc, .lstore 2, x) :: r) (l0 :: none :: u :: w :: l) (.inr (.inl a) :: st) h P = Py scr m r (l0 :: none :: some (.inr (.inl a)) :: none :: l) st h P := py_sL (by simp [zset, zwide, zclean])
theorem py_lstore2I {l0 : Option AV} {b : Int} {u w : Option AV} {a : Int} {l : Lc} {x : List Nat} : Py scr m ((pc, .lstore 2, x) :: r) (l0 :: some (.inl b) :: u :: w :: l) (.inr (.inl a) :: st) h P = Py scr m r (l0 :: some (.inl b) :: some (.inr (.inl a)) :: none :: l) st h P := py_sL (by simp [zset, zwide, zclean])
theorem py_lstore2R {l0 : Option AV} {b : Option Nat} {u w : Option AV} {a : Int} {l : Lc} {x : List Nat} : Py scr m ((pc, .lstore 2, x) :: r) (l0 :: some (.inr (.inr (.inl b))) :: u :: w :: l) (.inr (.inl a) :: st) h P = Py scr m r (l0 :: some (.inr (.inr (.inl b))) :: some (.inr (.inl a)) :: none :: l) st h P := py_sL (by simp [zset, zwide, zclean])
theorem py_lstore2M {l0 : Option AV} {b : Nat} {u w : Option AV} {a : Int} {l : Lc} {x : List Nat} : Py scr m ((pc, .lstore 2, x) :: r) (l0 :: some (.inr (.inr (.inr (.inr (.inr b))))) :: u :: w :: l) (.inr (.inl a) :: st) h P = Py scr m r (l0 :: some (.inr (.inr (.inr (.inr (.inr b))))) :: some (.inr (.inl a)) :: none :: l) st h P := py_sL (by simp [zset, zwide, zclean])
theorem py_lstore3N {l0 l1 : Option AV} {u w : Option AV} {a : Int} {l : Lc} {x : List Nat} : Py scr m ((pc, .lstore 3, x) :: r) (l0 :: l1 :: none :: u :: w :: l) (.inr (.inl a) :: st) h P = Py scr m r (l0 :: l1 :: none :: some (.inr (.inl a)) :: none :: l) st h P := py_sL (by simp [zset, zwide, zclean])
theorem py_lstore3I {l0 l1 : Option AV} {b : Int} {u w : Option AV} {a : Int} {l : Lc} {x : List Nat} : Py scr m ((pc, .lstore 3, x) :: r) (l0 :: l1 :: some (.inl b) :: u :: w :: l) (.inr (.inl a) :: st) h P = Py scr m r (l0 :: l1 :: some (.inl b) :: some (.inr (.inl a)) :: none :: l) st h P := py_sL (by simp [zset, zwide, zclean])
theorem py_lstore3R {l0 l1 : Option AV} {b : Option Nat} {u w : Option AV} {a : Int} {l : Lc} {x : List Nat} : Py scr m ((pc, .lstore 3, x) :: r) (l0 :: l1 :: some (.inr (.inr (.inl b))) :: u :: w :: l) (.inr (.inl a) :: st) h P = Py scr m r (l0 :: l1 :: some (.inr (.inr (.inl b))) :: some (.inr (.inl a)) :: none :: l) st h P := py_sL (by simp [zset, zwide, zclean])
theorem py_lstore3M {l0 l1 : Option AV} {b : Nat} {u w : Option AV} {a : Int} {l : Lc} {x : List Nat} : Py scr m ((pc, .lstore 3, x) :: r) (l0 :: l1 :: some (.inr (.inr (.inr (.inr (.inr b))))) :: u :: w :: l) (.inr (.inl a) :: st) h P = Py scr m r (l0 :: l1 :: some (.inr (.inr (.inr (.inr (.inr b))))) :: some (.inr (.inl a)) :: none :: l) st h P := py_sL (by simp [zset, zwide, zclean])
theorem py_lstore4N {l0 l1 l2 : Option AV} {u w : Option AV} {a : Int} {l : Lc} {x : List Nat} : Py scr m ((pc, .lstore 4, x) :: r) (l0 :: l1 :: l2 :: none :: u :: w :: l) (.inr (.inl a) :: st) h P = Py scr m r (l0 :: l1 :: l2 :: none :: some (.inr (.inl a)) :: none :: l) st h P := py_sL (by simp [zset, zwide, zclean])
theorem py_lstore4I {l0 l1 l2 : Option AV} {b : Int} {u w : Option AV} {a : Int} {l : Lc} {x : List Nat} : Py scr m ((pc, .lstore 4, x) :: r) (l0 :: l1 :: l2 :: some (.inl b) :: u :: w :: l) (.inr (.inl a) :: st) h P = Py scr m r (l0 :: l1 :: l2 :: some (.inl b) :: some (.inr (.inl a)) :: none :: l) st h P := py_sL (by simp [zset, zwide, zclean])
theorem py_lstore4R {l0 l1 l2 : Option AV} {b : Option Nat} {u w : Option AV} {a : Int} {l : Lc} {x : List Nat} : Py scr m ((pc, .lstore 4, x) :: r) (l0 :: l1 :: l2 :: some (.inr (.inr (.inl b))) :: u :: w :: l) (.inr (.inl a) :: st) h P = Py scr m r (l0 :: l1 :: l2 :: some (.inr (.inr (.inl b))) :: some (.inr (.inl a)) :: none :: l) st h P := py_sL (by simp [zset, zwide, zclean])
theorem py_lstore4M {l0 l1 l2 : Option AV} {b : Nat} {u w : Option AV} {a : Int} {l : Lc} {x : List Nat} : Py scr m ((pc, .lstore 4, x) :: r) (l0 :: l1 :: l2 :: some (.inr (.inr (.inr (.inr (.inr b))))) :: u :: w :: l) (.inr (.inl a) :: st) h P = Py scr m r (l0 :: l1 :: l2 :: some (.inr (.inr (.inr (.inr (.inr b))))) :: some (.inr (.inl a)) :: none :: l) st h P := py_sL (by simp [zset, zwide, zclean])
theorem py_lstore5N {l0 l1 l2 l3 : Option AV} {u w : Option AV} {a : Int} {l : Lc} {x : List Nat} : Py scr m ((pc, .lstore 5, x) :: r) (l0 :: l1 :: l2 :: l3 :: none :: u :: w :: l) (.inr (.inl a) :: st) h P = Py scr m r (l0 :: l1 :: l2 :: l3 :: none :: some (.inr (.inl a)) :: none :: l) st h P := py_sL (by simp [zset, zwide, zclean])
theorem py_lstore5I {l0 l1 l2 l3 : Option AV} {b : Int} {u w : Option AV} {a : Int} {l : Lc} {x : List Nat} : Py scr m ((pc, .lstore 5, x) :: r) (l0 :: l1 :: l2 :: l3 :: some (.inl b) :: u :: w :: l) (.inr (.inl a) :: st) h P = Py scr m r (l0 :: l1 :: l2 :: l3 :: some (.inl b) :: some (.inr (.inl a)) :: none :: l) st h P := py_sL (by simp [zset, zwide, zclean])
theorem py_lstore5R {l0 l1 l2 l3 : Option AV} {b : Option Nat} {u w : Option AV} {a : Int} {l : Lc} {x : List Nat} : Py scr m ((pc, .lstore 5, x) :: r) (l0 :: l1 :: l2 :: l3 :: some (.inr (.inr (.inl b))) :: u :: w :: l) (.inr (.inl a) :: st) h P = Py scr m r (l0 :: l1 :: l2 :: l3 :: some (.inr (.inr (.inl b))) :: some (.inr (.inl a)) :: none :: l) st h P := py_sL (by simp [zset, zwide, zclean])
theorem py_lstore5M {l0 l1 l2 l3 : Option AV} {b : Nat} {u w : Option AV} {a : Int} {l : Lc} {x : List Nat} : Py scr m ((pc, .lstore 5, x) :: r) (l0 :: l1 :: l2 :: l3 :: some (.inr (.inr (.inr (.inr (.inr b))))) :: u :: w :: l) (.inr (.inl a) :: st) h P = Py scr m r (l0 :: l1 :: l2 :: l3 :: some (.inr (.inr (.inr (.inr (.inr b))))) :: some (.inr (.inl a)) :: none :: l) st h P := py_sL (by simp [zset, zwide, zclean])
theorem py_lstore7N {l0 l1 l2 l3 l4 l5 : Option AV} {u w : Option AV} {a : Int} {l : Lc} {x : List Nat} : Py scr m ((pc, .lstore 7, x) :: r) (l0 :: l1 :: l2 :: l3 :: l4 :: l5 :: none :: u :: w :: l) (.inr (.inl a) :: st) h P = Py scr m r (l0 :: l1 :: l2 :: l3 :: l4 :: l5 :: none :: some (.inr (.inl a)) :: none :: l) st h P := py_sL (by simp [zset, zwide, zclean])
theorem py_lstore7I {l0 l1 l2 l3 l4 l5 : Option AV} {b : Int} {u w : Option AV} {a : Int} {l : Lc} {x : List Nat} : Py scr m ((pc, .lstore 7, x) :: r) (l0 :: l1 :: l2 :: l3 :: l4 :: l5 :: some (.inl b) :: u :: w :: l) (.inr (.inl a) :: st) h P = Py scr m r (l0 :: l1 :: l2 :: l3 :: l4 :: l5 :: some (.inl b) :: some (.inr (.inl a)) :: none :: l) st h P := py_sL (by simp [zset, zwide, zclean])
theorem py_lstore7R {l0 l1 l2 l3 l4 l5 : Option AV} {b : Option Nat} {u w : Option AV} {a : Int} {l : Lc} {x : List Nat} : Py scr m ((pc, .lstore 7, x) :: r) (l0 :: l1 :: l2 :: l3 :: l4 :: l5 :: some (.inr (.inr (.inl b))) :: u :: w :: l) (.inr (.inl a) :: st) h P = Py scr m r (l0 :: l1 :: l2 :: l3 :: l4 :: l5 :: some (.inr (.inr (.inl b))) :: some (.inr (.inl a)) :: none :: l) st h P := py_sL (by simp [zset, zwide, zclean])
theorem py_lstore7M {l0 l1 l2 l3 l4 l5 : Option AV} {b : Nat} {u w : Option AV} {a : Int} {l : Lc} {x : List Nat} : Py scr m ((pc, .lstore 7, x) :: r) (l0 :: l1 :: l2 :: l3 :: l4 :: l5 :: some (.inr (.inr (.inr (.inr (.inr b))))) :: u :: w :: l) (.inr (.inl a) :: st) h P = Py scr m r (l0 :: l1 :: l2 :: l3 :: l4 :: l5 :: some (.inr (.inr (.inr (.inr (.inr b))))) :: some (.inr (.inl a)) :: none :: l) st h P := py_sL (by simp [zset, zwide, zclean])
theorem py_lstore9N {l0 l1 l2 l3 l4 l5 l6 l7 : Option AV} {u w : Option AV} {a : Int} {l : Lc} {x : List Nat} : Py scr m ((pc, .lstore 9, x) :: r) (l0 :: l1 :: l2 :: l3 :: l4 :: l5 :: l6 :: l7 :: none :: u :: w :: l) (.inr (.inl a) :: st) h P = Py scr m r (l0 :: l1 :: l2 :: l3 :: l4 :: l5 :: l6 :: l7 :: none :: some (.inr (.inl a)) :: none :: l) st h P := py_sL (by simp [zset, zwide, zclean])
theorem py_lstore9I {l0 l1 l2 l3 l4 l5 l6 l7 : Option AV} {b : Int} {u w : Option AV} {a : Int} {l : Lc} {x : List Nat} : Py scr m ((pc, .lstore 9, x) :: r) (l0 :: l1 :: l2 :: l3 :: l4 :: l5 :: l6 :: l7 :: some (.inl b) :: u :: w :: l) (.inr (.inl a) :: st) h P = Py scr m r (l0 :: l1 :: l2 :: l3 :: l4 :: l5 :: l6 :: l7 :: some (.inl b) :: some (.inr (.inl a)) :: none :: l) st h P := py_sL (by simp [zset, zwide, zclean])
theorem py_lstore9R {l0 l1 l2 l3 l4 l5 l6 l7 : Option AV} {b : Option Nat} {u w : Option AV} {a : Int} {l : Lc} {x : List Nat} : Py scr m ((pc, .lstore 9, x) :: r) (l0 :: l1 :: l2 :: l3 :: l4 :: l5 :: l6 :: l7 :: some (.inr (.inr (.inl b))) :: u :: w :: l) (.inr (.inl a) :: st) h P = Py scr m r (l0 :: l1 :: l2 :: l3 :: l4 :: l5 :: l6 :: l7 :: some (.inr (.inr (.inl b))) :: some (.inr (.inl a)) :: none :: l) st h P := py_sL (by simp [zset, zwide, zclean])
theorem py_lstore9M {l0 l1 l2 l3 l4 l5 l6 l7 : Option AV} {b : Nat} {u w : Option AV} {a : Int} {l : Lc} {x : List Nat} : Py scr m ((pc, .lstore 9, x) :: r) (l0 :: l1 :: l2 :: l3 :: l4 :: l5 :: l6 :: l7 :: some (.inr (.inr (.inr (.inr (.inr b))))) :: u :: w :: l) (.inr (.inl a) :: st) h P = Py scr m r (l0 :: l1 :: l2 :: l3 :: l4 :: l5 :: l6 :: l7 :: some (.inr (.inr (.inr (.inr (.inr b))))) :: some (.inr (.inl a)) :: none :: l) st h P := py_sL (by simp [zset, zwide, zclean])
theorem py_fstore7N {l0 l1 l2 l3 l4 l5 : Option AV} {u : Option AV} {a : UInt32} {l : Lc} {x : List Nat} : Py scr m ((pc, .fstore 7, x) :: r) (l0 :: l1 :: l2 :: l3 :: l4 :: l5 :: none :: u :: l) (.inr (.inr (.inr (.inl a))) :: st) h P = Py scr m r (l0 :: l1 :: l2 :: l3 :: l4 :: l5 :: none :: some (.inr (.inr (.inr (.inl a)))) :: l) st h P := py_sF (by simp [zset, zwide, zclean])
theorem py_fstore7I {l0 l1 l2 l3 l4 l5 : Option AV} {b : Int} {u : Option AV} {a : UInt32} {l : Lc} {x : List Nat} : Py scr m ((pc, .fstore 7, x) :: r) (l0 :: l1 :: l2 :: l3 :: l4 :: l5 :: some (.inl b) :: u :: l) (.inr (.inr (.inr (.inl a))) :: st) h P = Py scr m r (l0 :: l1 :: l2 :: l3 :: l4 :: l5 :: some (.inl b) :: some (.inr (.inr (.inr (.inl a)))) :: l) st h P := py_sF (by simp [zset, zwide, zclean])
theorem py_fstore7R {l0 l1 l2 l3 l4 l5 : Option AV} {b : Option Nat} {u : Option AV} {a : UInt32} {l : Lc} {x : List Nat} : Py scr m ((pc, .fstore 7, x) :: r) (l0 :: l1 :: l2 :: l3 :: l4 :: l5 :: some (.inr (.inr (.inl b))) :: u :: l) (.inr (.inr (.inr (.inl a))) :: st) h P = Py scr m r (l0 :: l1 :: l2 :: l3 :: l4 :: l5 :: some (.inr (.inr (.inl b))) :: some (.inr (.inr (.inr (.inl a)))) :: l) st h P := py_sF (by simp [zset, zwide, zclean])
theorem py_fstore7M {l0 l1 l2 l3 l4 l5 : Option AV} {b : Nat} {u : Option AV} {a : UInt32} {l : Lc} {x : List Nat} : Py scr m ((pc, .fstore 7, x) :: r) (l0 :: l1 :: l2 :: l3 :: l4 :: l5 :: some (.inr (.inr (.inr (.inr (.inr b))))) :: u :: l) (.inr (.inr (.inr (.inl a))) :: st) h P = Py scr m r (l0 :: l1 :: l2 :: l3 :: l4 :: l5 :: some (.inr (.inr (.inr (.inr (.inr b))))) :: some (.inr (.inr (.inr (.inl a)))) :: l) st h P := py_sF (by simp [zset, zwide, zclean])
theorem py_dstore7N {l0 l1 l2 l3 l4 l5 : Option AV} {u w : Option AV} {a : UInt64} {l : Lc} {x : List Nat} : Py scr m ((pc, .dstore 7, x) :: r) (l0 :: l1 :: l2 :: l3 :: l4 :: l5 :: none :: u :: w :: l) (.inr (.inr (.inr (.inr (.inl a)))) :: st) h P = Py scr m r (l0 :: l1 :: l2 :: l3 :: l4 :: l5 :: none :: some (.inr (.inr (.inr (.inr (.inl a))))) :: none :: l) st h P := py_sD (by simp [zset, zwide, zclean])
theorem py_dstore7I {l0 l1 l2 l3 l4 l5 : Option AV} {b : Int} {u w : Option AV} {a : UInt64} {l : Lc} {x : List Nat} : Py scr m ((pc, .dstore 7, x) :: r) (l0 :: l1 :: l2 :: l3 :: l4 :: l5 :: some (.inl b) :: u :: w :: l) (.inr (.inr (.inr (.inr (.inl a)))) :: st) h P = Py scr m r (l0 :: l1 :: l2 :: l3 :: l4 :: l5 :: some (.inl b) :: some (.inr (.inr (.inr (.inr (.inl a))))) :: none :: l) st h P := py_sD (by simp [zset, zwide, zclean])
theorem py_dstore7R {l0 l1 l2 l3 l4 l5 : Option AV} {b : Option Nat} {u w : Option AV} {a : UInt64} {l : Lc} {x : List Nat} : Py scr m ((pc, .dstore 7, x) :: r) (l0 :: l1 :: l2 :: l3 :: l4 :: l5 :: some (.inr (.inr (.inl b))) :: u :: w :: l) (.inr (.inr (.inr (.inr (.inl a)))) :: st) h P = Py scr m r (l0 :: l1 :: l2 :: l3 :: l4 :: l5 :: some (.inr (.inr (.inl b))) :: some (.inr (.inr (.inr (.inr (.inl a))))) :: none :: l) st h P := py_sD (by simp [zset, zwide, zclean])
theorem py_dstore7M {l0 l1 l2 l3 l4 l5 : Option AV} {b : Nat} {u w : Option AV} {a : UInt64} {l : Lc} {x : List Nat} : Py scr m ((pc, .dstore 7, x) :: r) (l0 :: l1 :: l2 :: l3 :: l4 :: l5 :: some (.inr (.inr (.inr (.inr (.inr b))))) :: u :: w :: l) (.inr (.inr (.inr (.inr (.inl a)))) :: st) h P = Py scr m r (l0 :: l1 :: l2 :: l3 :: l4 :: l5 :: some (.inr (.inr (.inr (.inr (.inr b))))) :: some (.inr (.inr (.inr (.inr (.inl a))))) :: none :: l) st h P := py_sD (by simp [zset, zwide, zclean])
theorem py_astoreR1N {u : Option AV} {a : Option Nat} {l : Lc} {x : List Nat} : Py scr m ((pc, .astore 1, x) :: r) (none :: u :: l) (.inr (.inr (.inl a)) :: st) h P = Py scr m r (none :: some (.inr (.inr (.inl a))) :: l) st h P := py_sR (by simp [zset, zwide, zclean])
theorem py_astoreR1I {b : Int} {u : Option AV} {a : Option Nat} {l : Lc} {x : List Nat} : Py scr m ((pc, .astore 1, x) :: r) (some (.inl b) :: u :: l) (.inr (.inr (.inl a)) :: st) h P = Py scr m r (some (.inl b) :: some (.inr (.inr (.inl a))) :: l) st h P := py_sR (by simp [zset, zwide, zclean])
theorem py_astoreR1R {b : Option Nat} {u : Option AV} {a : Option Nat} {l : Lc} {x : List Nat} : Py scr m ((pc, .astore 1, x) :: r) (some (.inr (.inr (.inl b))) :: u :: l) (.inr (.inr (.inl a)) :: st) h P = Py scr m r (some (.inr (.inr (.inl b))) :: some (.inr (.inr (.inl a))) :: l) st h P := py_sR (by simp [zset, zwide, zclean])
theorem py_astoreR1M {b : Nat} {u : Option AV} {a : Option Nat} {l : Lc} {x : List Nat} : Py scr m ((pc, .astore 1, x) :: r) (some (.inr (.inr (.inr (.inr (.inr b))))) :: u :: l) (.inr (.inr (.inl a)) :: st) h P = Py scr m r (some (.inr (.inr (.inr (.inr (.inr b))))) :: some (.inr (.inr (.inl a))) :: l) st h P := py_sR (by simp [zset, zwide, zclean])
theorem py_astoreM1N {u : Option AV} {a : Nat} {l : Lc} {x : List Nat} : Py scr m ((pc, .astore 1, x) :: r) (none :: u :: l) (.inr (.inr (.inr (.inr (.inr a)))) :: st) h P = Py scr m r (none :: some (.inr (.inr (.inr (.inr (.inr a))))) :: l) st h P := py_sM (by simp [zset, zwide, zclean])
theorem py_astoreM1I {b : Int} {u : Option AV} {a : Nat} {l : Lc} {x : List Nat} : Py scr m ((pc, .astore 1, x) :: r) (some (.inl b) :: u :: l) (.inr (.inr (.inr (.inr (.inr a)))) :: st) h P = Py scr m r (some (.inl b) :: some (.inr (.inr (.inr (.inr (.inr a))))) :: l) st h P := py_sM (by simp [zset, zwide, zclean])
theorem py_astoreM1R {b : Option Nat} {u : Option AV} {a : Nat} {l : Lc} {x : List Nat} : Py scr m ((pc, .astore 1, x) :: r) (some (.inr (.inr (.inl b))) :: u :: l) (.inr (.inr (.inr (.inr (.inr a)))) :: st) h P = Py scr m r (some (.inr (.inr (.inl b))) :: some (.inr (.inr (.inr (.inr (.inr a))))) :: l) st h P := py_sM (by simp [zset, zwide, zclean])
theorem py_astoreM1M {b : Nat} {u : Option AV} {a : Nat} {l : Lc} {x : List Nat} : Py scr m ((pc, .astore 1, x) :: r) (some (.inr (.inr (.inr (.inr (.inr b))))) :: u :: l) (.inr (.inr (.inr (.inr (.inr a)))) :: st) h P = Py scr m r (some (.inr (.inr (.inr (.inr (.inr b))))) :: some (.inr (.inr (.inr (.inr (.inr a))))) :: l) st h P := py_sM (by simp [zset, zwide, zclean])
theorem py_astoreR2N {l0 : Option AV} {u : Option AV} {a : Option Nat} {l : Lc} {x : List Nat} : Py scr m ((pc, .astore 2, x) :: r) (l0 :: none :: u :: l) (.inr (.inr (.inl a)) :: st) h P = Py scr m r (l0 :: none :: some (.inr (.inr (.inl a))) :: l) st h P := py_sR (by simp [zset, zwide, zclean])
theorem py_astoreR2I {l0 : Option AV} {b : Int} {u : Option AV} {a : Option Nat} {l : Lc} {x : List Nat} : Py scr m ((pc, .astore 2, x) :: r) (l0 :: some (.inl b) :: u :: l) (.inr (.inr (.inl a)) :: st) h P = Py scr m r (l0 :: some (.inl b) :: some (.inr (.inr (.inl a))) :: l) st h P := py_sR (by simp [zset, zwide, zclean])
theorem py_astoreR2R {l0 : Option AV} {b : Option Nat} {u : Option AV} {a : Option Nat} {l : Lc} {x : List Nat} : Py scr m ((pc, .astore 2, x) :: r) (l0 :: some (.inr (.inr (.inl b))) :: u :: l) (.inr (.inr (.inl a)) :: st) h P = Py scr m r (l0 :: some (.inr (.inr (.inl b))) :: some (.inr (.inr (.inl a))) :: l) st h P := py_sR (by simp [zset, zwide, zclean])
theorem py_astoreR2M {l0 : Option AV} {b : Nat} {u : Option AV} {a : Option Nat} {l : Lc} {x : List Nat} : Py scr m ((pc, .astore 2, x) :: r) (l0 :: some (.inr (.inr (.inr (.inr (.inr b))))) :: u :: l) (.inr (.inr (.inl a)) :: st) h P = Py scr m r (l0 :: some (.inr (.inr (.inr (.inr (.inr b))))) :: some (.inr (.inr (.inl a))) :: l) st h P := py_sR (by simp [zset, zwide, zclean])
theorem py_astoreM2N {l0 : Option AV} {u : Option AV} {a : Nat} {l : Lc} {x : List Nat} : Py scr m ((pc, .astore 2, x) :: r) (l0 :: none :: u :: l) (.inr (.inr (.inr (.inr (.inr a)))) :: st) h P = Py scr m r (l0 :: none :: some (.inr (.inr (.inr (.inr (.inr a))))) :: l) st h P := py_sM (by simp [zset, zwide, zclean])
theorem py_astoreM2I {l0 : Option AV} {b : Int} {u : Option AV} {a : Nat} {l : Lc} {x : List Nat} : Py scr m ((pc, .astore 2, x) :: r) (l0 :: some (.inl b) :: u :: l) (.inr (.inr (.inr (.inr (.inr a)))) :: st) h P = Py scr m r (l0 :: some (.inl b) :: some (.inr (.inr (.inr (.inr (.inr a))))) :: l) st h P := py_sM (by simp [zset, zwide, zclean])
theorem py_astoreM2R {l0 : Option AV} {b : Option Nat} {u : Option AV} {a : Nat} {l : Lc} {x : List Nat} : Py scr m ((pc, .astore 2, x) :: r) (l0 :: some (.inr (.inr (.inl b))) :: u :: l) (.inr (.inr (.inr (.inr (.inr a)))) :: st) h P = Py scr m r (l0 :: some (.inr (.inr (.inl b))) :: some (.inr (.inr (.inr (.inr (.inr a))))) :: l) st h P := py_sM (by simp [zset, zwide, zclean])
theorem py_astoreM2M {l0 : Option AV} {b : Nat} {u : Option AV} {a : Nat} {l : Lc} {x : List Nat} : Py scr m ((pc, .astore 2, x) :: r) (l0 :: some (.inr (.inr (.inr (.inr (.inr b))))) :: u :: l) (.inr (.inr (.inr (.inr (.inr a)))) :: st) h P = Py scr m r (l0 :: some (.inr (.inr (.inr (.inr (.inr b))))) :: some (.inr (.inr (.inr (.inr (.inr a))))) :: l) st h P := py_sM (by simp [zset, zwide, zclean])
theorem py_astoreR3N {l0 l1 : Option AV} {u : Option AV} {a : Option Nat} {l : Lc} {x : List Nat} : Py scr m ((pc, .astore 3, x) :: r) (l0 :: l1 :: none :: u :: l) (.inr (.inr (.inl a)) :: st) h P = Py scr m r (l0 :: l1 :: none :: some (.inr (.inr (.inl a))) :: l) st h P := py_sR (by simp [zset, zwide, zclean])
theorem py_astoreR3I {l0 l1 : Option AV} {b : Int} {u : Option AV} {a : Option Nat} {l : Lc} {x : List Nat} : Py scr m ((pc, .astore 3, x) :: r) (l0 :: l1 :: some (.inl b) :: u :: l) (.inr (.inr (.inl a)) :: st) h P = Py scr m r (l0 :: l1 :: some (.inl b) :: some (.inr (.inr (.inl a))) :: l) st h P := py_sR (by simp [zset, zwide, zclean])
theorem py_astoreR3R {l0 l1 : Option AV} {b : Option Nat} {u : Option AV} {a : Option Nat} {l : Lc} {x : List Nat} : Py scr m ((pc, .astore 3, x) :: r) (l0 :: l1 :: some (.inr (.inr (.inl b))) :: u :: l) (.inr (.inr (.inl a)) :: st) h P = Py scr m r (l0 :: l1 :: some (.inr (.inr (.inl b))) :: some (.inr (.inr (.inl a))) :: l) st h P := py_sR (by simp [zset, zwide, zclean])
theorem py_astoreR3M {l0 l1 : Option AV} {b : Nat} {u : Option AV} {a : Option Nat} {l : Lc} {x : List Nat} : Py scr m ((pc, .astore 3, x) :: r) (l0 :: l1 :: some (.inr (.inr (.inr (.inr (.inr b))))) :: u :: l) (.inr (.inr (.inl a)) :: st) h P = Py scr m r (l0 :: l1 :: some (.inr (.inr (.inr (.inr (.inr b))))) :: some (.inr (.inr (.inl a))) :: l) st h P := py_sR (by simp [zset, zwide, zclean])
theorem py_astoreM3N {l0 l1 : Option AV} {u : Option AV} {a : Nat} {l : Lc} {x : List Nat} : Py scr m ((pc, .astore 3, x) :: r) (l0 :: l1 :: none :: u :: l) (.inr (.inr (.inr (.inr (.inr a)))) :: st) h P = Py scr m r (l0 :: l1 :: none :: some (.inr (.inr (.inr (.inr (.inr a))))) :: l) st h P := py_sM (by simp [zset, zwide, zclean])
theorem py_astoreM3I {l0 l1 : Option AV} {b : Int} {u : Option AV} {a : Nat} {l : Lc} {x : List Nat} : Py scr m ((pc, .astore 3, x) :: r) (l0 :: l1 :: some (.inl b) :: u :: l) (.inr (.inr (.inr (.inr (.inr a)))) :: st) h P = Py scr m r (l0 :: l1 :: some (.inl b) :: some (.inr (.inr (.inr (.inr (.inr a))))) :: l) st h P := py_sM (by simp [zset, zwide, zclean])
theorem py_astoreM3R {l0 l1 : Option AV} {b : Option Nat} {u : Option AV} {a : Nat} {l : Lc} {x : List Nat} : Py scr m ((pc, .astore 3, x) :: r) (l0 :: l1 :: some (.inr (.inr (.inl b))) :: u :: l) (.inr (.inr (.inr (.inr (.inr a)))) :: st) h P = Py scr m r (l0 :: l1 :: some (.inr (.inr (.inl b))) :: some (.inr (.inr (.inr (.inr (.inr a))))) :: l) st h P := py_sM (by simp [zset, zwide, zclean])
theorem py_astoreM3M {l0 l1 : Option AV} {b : Nat} {u : Option AV} {a : Nat} {l : Lc} {x : List Nat} : Py scr m ((pc, .astore 3, x) :: r) (l0 :: l1 :: some (.inr (.inr (.inr (.inr (.inr b))))) :: u :: l) (.inr (.inr (.inr (.inr (.inr a)))) :: st) h P = Py scr m r (l0 :: l1 :: some (.inr (.inr (.inr (.inr (.inr b))))) :: some (.inr (.inr (.inr (.inr (.inr a))))) :: l) st h P := py_sM (by simp [zset, zwide, zclean])
theorem py_astoreR4N {l0 l1 l2 : Option AV} {u : Option AV} {a : Option Nat} {l : Lc} {x : List Nat} : Py scr m ((pc, .astore 4, x) :: r) (l0 :: l1 :: l2 :: none :: u :: l) (.inr (.inr (.inl a)) :: st) h P = Py scr m r (l0 :: l1 :: l2 :: none :: some (.inr (.inr (.inl a))) :: l) st h P := py_sR (by simp [zset, zwide, zclean])
theorem py_astoreR4I {l0 l1 l2 : Option AV} {b : Int} {u : Option AV} {a : Option Nat} {l : Lc} {x : List Nat} : Py scr m ((pc, .astore 4, x) :: r) (l0 :: l1 :: l2 :: some (.inl b) :: u :: l) (.inr (.inr (.inl a)) :: st) h P = Py scr m r (l0 :: l1 :: l2 :: some (.inl b) :: some (.inr (.inr (.inl a))) :: l) st h P := py_sR (by simp [zset, zwide, zclean])
theorem py_astoreR4R {l0 l1 l2 : Option AV} {b : Option Nat} {u : Option AV} {a : Option Nat} {l : Lc} {x : List Nat} : Py scr m ((pc, .astore 4, x) :: r) (l0 :: l1 :: l2 :: some (.inr (.inr (.inl b))) :: u :: l) (.inr (.inr (.inl a)) :: st) h P = Py scr m r (l0 :: l1 :: l2 :: some (.inr (.inr (.inl b))) :: some (.inr (.inr (.inl a))) :: l) st h P := py_sR (by simp [zset, zwide, zclean])
theorem py_astoreR4M {l0 l1 l2 : Option AV} {b : Nat} {u : Option AV} {a : Option Nat} {l : Lc} {x : List Nat} : Py scr m ((pc, .astore 4, x) :: r) (l0 :: l1 :: l2 :: some (.inr (.inr (.inr (.inr (.inr b))))) :: u :: l) (.inr (.inr (.inl a)) :: st) h P = Py scr m r (l0 :: l1 :: l2 :: some (.inr (.inr (.inr (.inr (.inr b))))) :: some (.inr (.inr (.inl a))) :: l) st h P := py_sR (by simp [zset, zwide, zclean])
theorem py_astoreM4N {l0 l1 l2 : Option AV} {u : Option AV} {a : Nat} {l : Lc} {x : List Nat} : Py scr m ((pc, .astore 4, x) :: r) (l0 :: l1 :: l2 :: none :: u :: l) (.inr (.inr (.inr (.inr (.inr a)))) :: st) h P = Py scr m r (l0 :: l1 :: l2 :: none :: some (.inr (.inr (.inr (.inr (.inr a))))) :: l) st h P := py_sM (by simp [zset, zwide, zclean])
theorem py_astoreM4I {l0 l1 l2 : Option AV} {b : Int} {u : Option AV} {a : Nat} {l : Lc} {x : List Nat} : Py scr m ((pc, .astore 4, x) :: r) (l0 :: l1 :: l2 :: some (.inl b) :: u :: l) (.inr (.inr (.inr (.inr (.inr a)))) :: st) h P = Py scr m r (l0 :: l1 :: l2 :: some (.inl b) :: some (.inr (.inr (.inr (.inr (.inr a))))) :: l) st h P := py_sM (by simp [zset, zwide, zclean])
theorem py_astoreM4R {l0 l1 l2 : Option AV} {b : Option Nat} {u : Option AV} {a : Nat} {l : Lc} {x : List Nat} : Py scr m ((pc, .astore 4, x) :: r) (l0 :: l1 :: l2 :: some (.inr (.inr (.inl b))) :: u :: l) (.inr (.inr (.inr (.inr (.inr a)))) :: st) h P = Py scr m r (l0 :: l1 :: l2 :: some (.inr (.inr (.inl b))) :: some (.inr (.inr (.inr (.inr (.inr a))))) :: l) st h P := py_sM (by simp [zset, zwide, zclean])
theorem py_astoreM4M {l0 l1 l2 : Option AV} {b : Nat} {u : Option AV} {a : Nat} {l : Lc} {x : List Nat} : Py scr m ((pc, .astore 4, x) :: r) (l0 :: l1 :: l2 :: some (.inr (.inr (.inr (.inr (.inr b))))) :: u :: l) (.inr (.inr (.inr (.inr (.inr a)))) :: st) h P = Py scr m r (l0 :: l1 :: l2 :: some (.inr (.inr (.inr (.inr (.inr b))))) :: some (.inr (.inr (.inr (.inr (.inr a))))) :: l) st h P := py_sM (by simp [zset, zwide, zclean])
theorem py_astoreR5N {l0 l1 l2 l3 : Option AV} {u : Option AV} {a : Option Nat} {l : Lc} {x : List Nat} : Py scr m ((pc, .astore 5, x) :: r) (l0 :: l1 :: l2 :: l3 :: none :: u :: l) (.inr (.inr (.inl a)) :: st) h P = Py scr m r (l0 :: l1 :: l2 :: l3 :: none :: some (.inr (.inr (.inl a))) :: l) st h P := py_sR (by simp [zset, zwide, zclean])
theorem py_astoreR5I {l0 l1 l2 l3 : Option AV} {b : Int} {u : Option AV} {a : Option Nat} {l : Lc} {x : List Nat} : Py scr m ((pc, .astore 5, x) :: r) (l0 :: l1 :: l2 :: l3 :: some (.inl b) :: u :: l) (.inr (.inr (.inl a)) :: st) h P = Py scr m r (l0 :: l1 :: l2 :: l3 :: some (.inl b) :: some (.inr (.inr (.inl a))) :: l) st h P := py_sR (by simp [zset, zwide, zclean])
theorem py_astoreR5R {l0 l1 l2 l3 : Option AV} {b : Option Nat} {u : Option AV} {a : Option Nat} {l : Lc} {x : List Nat} : Py scr m ((pc, .astore 5, x) :: r) (l0 :: l1 :: l2 :: l3 :: some (.inr (.inr (.inl b))) :: u :: l) (.inr (.inr (.inl a)) :: st) h P = Py scr m r (l0 :: l1 :: l2 :: l3 :: some (.inr (.inr (.inl b))) :: some (.inr (.inr (.inl a))) :: l) st h P := py_sR (by simp [zset, zwide, zclean])
theorem py_astoreR5M {l0 l1 l2 l3 : Option AV} {b : Nat} {u : Option AV} {a : Option Nat} {l : Lc} {x : List Nat} : Py scr m ((pc, .astore 5, x) :: r) (l0 :: l1 :: l2 :: l3 :: some (.inr (.inr (.inr (.inr (.inr b))))) :: u :: l) (.inr (.inr (.inl a)) :: st) h P = Py scr m r (l0 :: l1 :: l2 :: l3 :: some (.inr (.inr (.inr (.inr (.inr b))))) :: some (.inr (.inr (.inl a))) :: l) st h P := py_sR (by simp [zset, zwide, zclean])
theorem py_astoreM5N {l0 l1 l2 l3 : Option AV} {u : Option AV} {a : Nat} {l : Lc} {x : List Nat} : Py scr m ((pc, .astore 5, x) :: r) (l0 :: l1 :: l2 :: l3 :: none :: u :: l) (.inr (.inr (.inr (.inr (.inr a)))) :: st) h P = Py scr m r (l0 :: l1 :: l2 :: l3 :: none :: some (.inr (.inr (.inr (.inr (.inr a))))) :: l) st h P := py_sM (by simp [zset, zwide, zclean])
theorem py_astoreM5I {l0 l1 l2 l3 : Option AV} {b : Int} {u : Option AV} {a : Nat} {l : Lc} {x : List Nat} : Py scr m ((pc, .astore 5, x) :: r) (l0 :: l1 :: l2 :: l3 :: some (.inl b) :: u :: l) (.inr (.inr (.inr (.inr (.inr a)))) :: st) h P = Py scr m r (l0 :: l1 :: l2 :: l3 :: some (.inl b) :: some (.inr (.inr (.inr (.inr (.inr a))))) :: l) st h P := py_sM (by simp [zset, zwide, zclean])
theorem py_astoreM5R {l0 l1 l2 l3 : Option AV} {b : Option Nat} {u : Option AV} {a : Nat} {l : Lc} {x : List Nat} : Py scr m ((pc, .astore 5, x) :: r) (l0 :: l1 :: l2 :: l3 :: some (.inr (.inr (.inl b))) :: u :: l) (.inr (.inr (.inr (.inr (.inr a)))) :: st) h P = Py scr m r (l0 :: l1 :: l2 :: l3 :: some (.inr (.inr (.inl b))) :: some (.inr (.inr (.inr (.inr (.inr a))))) :: l) st h P := py_sM (by simp [zset, zwide, zclean])
theorem py_astoreM5M {l0 l1 l2 l3 : Option AV} {b : Nat} {u : Option AV} {a : Nat} {l : Lc} {x : List Nat} : Py scr m ((pc, .astore 5, x) :: r) (l0 :: l1 :: l2 :: l3 :: some (.inr (.inr (.inr (.inr (.inr b))))) :: u :: l) (.inr (.inr (.inr (.inr (.inr a)))) :: st) h P = Py scr m r (l0 :: l1 :: l2 :: l3 :: some (.inr (.inr (.inr (.inr (.inr b))))) :: some (.inr (.inr (.inr (.inr (.inr a))))) :: l) st h P := py_sM (by simp [zset, zwide, zclean])
theorem py_astoreR6N {l0 l1 l2 l3 l4 : Option AV} {u : Option AV} {a : Option Nat} {l : Lc} {x : List Nat} : Py scr m ((pc, .astore 6, x) :: r) (l0 :: l1 :: l2 :: l3 :: l4 :: none :: u :: l) (.inr (.inr (.inl a)) :: st) h P = Py scr m r (l0 :: l1 :: l2 :: l3 :: l4 :: none :: some (.inr (.inr (.inl a))) :: l) st h P := py_sR (by simp [zset, zwide, zclean])
theorem py_astoreR6I {l0 l1 l2 l3 l4 : Option AV} {b : Int} {u : Option AV} {a : Option Nat} {l : Lc} {x : List Nat} : Py scr m ((pc, .astore 6, x) :: r) (l0 :: l1 :: l2 :: l3 :: l4 :: some (.inl b) :: u :: l) (.inr (.inr (.inl a)) :: st) h P = Py scr m r (l0 :: l1 :: l2 :: l3 :: l4 :: some (.inl b) :: some (.inr (.inr (.inl a))) :: l) st h P := py_sR (by simp [zset, zwide, zclean])
theorem py_astoreR6R {l0 l1 l2 l3 l4 : Option AV} {b : Option Nat} {u : Option AV} {a : Option Nat} {l : Lc} {x : List Nat} : Py scr m ((pc, .astore 6, x) :: r) (l0 :: l1 :: l2 :: l3 :: l4 :: some (.inr (.inr (.inl b))) :: u :: l) (.inr (.inr (.inl a)) :: st) h P = Py scr m r (l0 :: l1 :: l2 :: l3 :: l4 :: some (.inr (.inr (.inl b))) :: some (.inr (.inr (.inl a))) :: l) st h P := py_sR (by simp [zset, zwide, zclean])
theorem py_astoreR6M {l0 l1 l2 l3 l4 : Option AV} {b : Nat} {u : Option AV} {a : Option Nat} {l : Lc} {x : List Nat} : Py scr m ((pc, .astore 6, x) :: r) (l0 :: l1 :: l2 :: l3 :: l4 :: some (.inr (.inr (.inr (.inr (.inr b))))) :: u :: l) (.inr (.inr (.inl a)) :: st) h P = Py scr m r (l0 :: l1 :: l2 :: l3 :: l4 :: some (.inr (.inr (.inr (.inr (.inr b))))) :: some (.inr (.inr (.inl a))) :: l) st h P := py_sR (by simp [zset, zwide, zclean])
theorem py_astoreM6N {l0 l1 l2 l3 l4 : Option AV} {u : Option AV} {a : Nat} {l : Lc} {x : List Nat} : Py scr m ((pc, .astore 6, x) :: r) (l0 :: l1 :: l2 :: l3 :: l4 :: none :: u :: l) (.inr (.inr (.inr (.inr (.inr a)))) :: st) h P = Py scr m r (l0 :: l1 :: l2 :: l3 :: l4 :: none :: some (.inr (.inr (.inr (.inr (.inr a))))) :: l) st h P := py_sM (by simp [zset, zwide, zclean])
theorem py_astoreM6I {l0 l1 l2 l3 l4 : Option AV} {b : Int} {u : Option AV} {a : Nat} {l : Lc} {x : List Nat} : Py scr m ((pc, .astore 6, x) :: r) (l0 :: l1 :: l2 :: l3 :: l4 :: some (.inl b) :: u :: l) (.inr (.inr (.inr (.inr (.inr a)))) :: st) h P = Py scr m r (l0 :: l1 :: l2 :: l3 :: l4 :: some (.inl b) :: some (.inr (.inr (.inr (.inr (.inr a))))) :: l) st h P := py_sM (by simp [zset, zwide, zclean])
theorem py_astoreM6R {l0 l1 l2 l3 l4 : Option AV} {b : Option Nat} {u : Option AV} {a : Nat} {l : Lc} {x : List Nat} : Py scr m ((pc, .astore 6, x) :: r) (l0 :: l1 :: l2 :: l3 :: l4 :: some (.inr (.inr (.inl b))) :: u :: l) (.inr (.inr (.inr (.inr (.inr a)))) :: st) h P = Py scr m r (l0 :: l1 :: l2 :: l3 :: l4 :: some (.inr (.inr (.inl b))) :: some (.inr (.inr (.inr (.inr (.inr a))))) :: l) st h P := py_sM (by simp [zset, zwide, zclean])
theorem py_astoreM6M {l0 l1 l2 l3 l4 : Option AV} {b : Nat} {u : Option AV} {a : Nat} {l : Lc} {x : List Nat} : Py scr m ((pc, .astore 6, x) :: r) (l0 :: l1 :: l2 :: l3 :: l4 :: some (.inr (.inr (.inr (.inr (.inr b))))) :: u :: l) (.inr (.inr (.inr (.inr (.inr a)))) :: st) h P = Py scr m r (l0 :: l1 :: l2 :: l3 :: l4 :: some (.inr (.inr (.inr (.inr (.inr b))))) :: some (.inr (.inr (.inr (.inr (.inr a))))) :: l) st h P := py_sM (by simp [zset, zwide, zclean])
theorem py_astoreR7N {l0 l1 l2 l3 l4 l5 : Option AV} {u : Option AV} {a : Option Nat} {l : Lc} {x : List Nat} : Py scr m ((pc, .astore 7, x) :: r) (l0 :: l1 :: l2 :: l3 :: l4 :: l5 :: none :: u :: l) (.inr (.inr (.inl a)) :: st) h P = Py scr m r (l0 :: l1 :: l2 :: l3 :: l4 :: l5 :: none :: some (.inr (.inr (.inl a))) :: l) st h P := py_sR (by simp [zset, zwide, zclean])
theorem py_astoreR7I {l0 l1 l2 l3 l4 l5 : Option AV} {b : Int} {u : Option AV} {a : Option Nat} {l : Lc} {x : List Nat} : Py scr m ((pc, .astore 7, x) :: r) (l0 :: l1 :: l2 :: l3 :: l4 :: l5 :: some (.inl b) :: u :: l) (.inr (.inr (.inl a)) :: st) h P = Py scr m r (l0 :: l1 :: l2 :: l3 :: l4 :: l5 :: some (.inl b) :: some (.inr (.inr (.inl a))) :: l) st h P := py_sR (by simp [zset, zwide, zclean])
theorem py_astoreR7R {l0 l1 l2 l3 l4 l5 : Option AV} {b : Option Nat} {u : Option AV} {a : Option Nat} {l : Lc} {x : List Nat} : Py scr m ((pc, .astore 7, x) :: r) (l0 :: l1 :: l2 :: l3 :: l4 :: l5 :: some (.inr (.inr (.inl b))) :: u :: l) (.inr (.inr (.inl a)) :: st) h P = Py scr m r (l0 :: l1 :: l2 :: l3 :: l4 :: l5 :: some (.inr (.inr (.inl b))) :: some (.inr (.inr (.inl a))) :: l) st h P := py_sR (by simp [zset, zwide, zclean])
theorem py_astoreR7M {l0 l1 l2 l3 l4 l5 : Option AV} {b : Nat} {u : Option AV} {a : Option Nat} {l : Lc} {x : List Nat} : Py scr m ((pc, .astore 7, x) :: r) (l0 :: l1 :: l2 :: l3 :: l4 :: l5 :: some (.inr (.inr (.inr (.inr (.inr b))))) :: u :: l) (.inr (.inr (.inl a)) :: st) h P = Py scr m r (l0 :: l1 :: l2 :: l3 :: l4 :: l5 :: some (.inr (.inr (.inr (.inr (.inr b))))) :: some (.inr (.inr (.inl a))) :: l) st h P := py_sR (by simp [zset, zwide, zclean])
theorem py_astoreM7N {l0 l1 l2 l3 l4 l5 : Option AV} {u : Option AV} {a : Nat} {l : Lc} {x : List Nat} : Py scr m ((pc, .astore 7, x) :: r) (l0 :: l1 :: l2 :: l3 :: l4 :: l5 :: none :: u :: l) (.inr (.inr (.inr (.inr (.inr a)))) :: st) h P = Py scr m r (l0 :: l1 :: l2 :: l3 :: l4 :: l5 :: none :: some (.inr (.inr (.inr (.inr (.inr a))))) :: l) st h P := py_sM (by simp [zset, zwide, zclean])
theorem py_astoreM7I {l0 l1 l2 l3 l4 l5 : Option AV} {b : Int} {u : Option AV} {a : Nat} {l : Lc} {x : List Nat} : Py scr m ((pc, .astore 7, x) :: r) (l0 :: l1 :: l2 :: l3 :: l4 :: l5 :: some (.inl b) :: u :: l) (.inr (.inr (.inr (.inr (.inr a)))) :: st) h P = Py scr m r (l0 :: l1 :: l2 :: l3 :: l4 :: l5 :: some (.inl b) :: some (.inr (.inr (.inr (.inr (.inr a))))) :: l) st h P := py_sM (by simp [zset, zwide, zclean])
theorem py_astoreM7R {l0 l1 l2 l3 l4 l5 : Option AV} {b : Option Nat} {u : Option AV} {a : Nat} {l : Lc} {x : List Nat} : Py scr m ((pc, .astore 7, x) :: r) (l0 :: l1 :: l2 :: l3 :: l4 :: l5 :: some (.inr (.inr (.inl b))) :: u :: l) (.inr (.inr (.inr (.inr (.inr a)))) :: st) h P = Py scr m r (l0 :: l1 :: l2 :: l3 :: l4 :: l5 :: some (.inr (.inr (.inl b))) :: some (.inr (.inr (.inr (.inr (.inr a))))) :: l) st h P := py_sM (by simp [zset, zwide, zclean])
theorem py_astoreM7M {l0 l1 l2 l3 l4 l5 : Option AV} {b : Nat} {u : Option AV} {a : Nat} {l : Lc} {x : List Nat} : Py scr m ((pc, .astore 7, x) :: r) (l0 :: l1 :: l2 :: l3 :: l4 :: l5 :: some (.inr (.inr (.inr (.inr (.inr b))))) :: u :: l) (.inr (.inr (.inr (.inr (.inr a)))) :: st) h P = Py scr m r (l0 :: l1 :: l2 :: l3 :: l4 :: l5 :: some (.inr (.inr (.inr (.inr (.inr b))))) :: some (.inr (.inr (.inr (.inr (.inr a))))) :: l) st h P := py_sM (by simp [zset, zwide, zclean])
theorem py_astoreR8N {l0 l1 l2 l3 l4 l5 l6 : Option AV} {u : Option AV} {a : Option Nat} {l : Lc} {x : List Nat} : Py scr m ((pc, .astore 8, x) :: r) (l0 :: l1 :: l2 :: l3 :: l4 :: l5 :: l6 :: none :: u :: l) (.inr (.inr (.inl a)) :: st) h P = Py scr m r (l0 :: l1 :: l2 :: l3 :: l4 :: l5 :: l6 :: none :: some (.inr (.inr (.inl a))) :: l) st h P := py_sR (by simp [zset, zwide, zclean])
theorem py_astoreR8I {l0 l1 l2 l3 l4 l5 l6 : Option AV} {b : Int} {u : Option AV} {a : Option Nat} {l : Lc} {x : List Nat} : Py scr m ((pc, .astore 8, x) :: r) (l0 :: l1 :: l2 :: l3 :: l4 :: l5 :: l6 :: some (.inl b) :: u :: l) (.inr (.inr (.inl a)) :: st) h P = Py scr m r (l0 :: l1 :: l2 :: l3 :: l4 :: l5 :: l6 :: some (.inl b) :: some (.inr (.inr (.inl a))) :: l) st h P := py_sR (by simp [zset, zwide, zclean])
theorem py_astoreR8R {l0 l1 l2 l3 l4 l5 l6 : Option AV} {b : Option Nat} {u : Option AV} {a : Option Nat} {l : Lc} {x : List Nat} : Py scr m ((pc, .astore 8, x) :: r) (l0 :: l1 :: l2 :: l3 :: l4 :: l5 :: l6 :: some (.inr (.inr (.inl b))) :: u :: l) (.inr (.inr (.inl a)) :: st) h P = Py scr m r (l0 :: l1 :: l2 :: l3 :: l4 :: l5 :: l6 :: some (.inr (.inr (.inl b))) :: some (.inr (.inr (.inl a))) :: l) st h P := py_sR (by simp [zset, zwide, zclean])
theorem py_astoreR8M {l0 l1 l2 l3 l4 l5 l6 : Option AV} {b : Nat} {u : Option AV} {a : Option Nat} {l : Lc} {x : List Nat} : Py scr m ((pc, .astore 8, x) :: r) (l0 :: l1 :: l2 :: l3 :: l4 :: l5 :: l6 :: some (.inr (.inr (.inr (.inr (.inr b))))) :: u :: l) (.inr (.inr (.inl a)) :: st) h P = Py scr m r (l0 :: l1 :: l2 :: l3 :: l4 :: l5 :: l6 :: some (.inr (.inr (.inr (.inr (.inr b))))) :: some (.inr (.inr (.inl a))) :: l) st h P := py_sR (by simp [zset, zwide, zclean])
theorem py_astoreM8N {l0 l1 l2 l3 l4 l5 l6 : Option AV} {u : Option AV} {a : Nat} {l : Lc} {x : List Nat} : Py scr m ((pc, .astore 8, x) :: r) (l0 :: l1 :: l2 :: l3 :: l4 :: l5 :: l6 :: none :: u :: l) (.inr (.inr (.inr (.inr (.inr a)))) :: st) h P = Py scr m r (l0 :: l1 :: l2 :: l3 :: l4 :: l5 :: l6 :: none :: some (.inr (.inr (.inr (.inr (.inr a))))) :: l) st h P := py_sM (by simp [zset, zwide, zclean])
theorem py_astoreM8I {l0 l1 l2 l3 l4 l5 l6 : Option AV} {b : Int} {u : Option AV} {a : Nat} {l : Lc} {x : List Nat} : Py scr m ((pc, .astore 8, x) :: r) (l0 :: l1 :: l2 :: l3 :: l4 :: l5 :: l6 :: some (.inl b) :: u :: l) (.inr (.inr (.inr (.inr (.inr a)))) :: st) h P = Py scr m r (l0 :: l1 :: l2 :: l3 :: l4 :: l5 :: l6 :: some (.inl b) :: some (.inr (.inr (.inr (.inr (.inr a))))) :: l) st h P := py_sM (by simp [zset, zwide, zclean])
theorem py_astoreM8R {l0 l1 l2 l3 l4 l5 l6 : Option AV} {b : Option Nat} {u : Option AV} {a : Nat} {l : Lc} {x : List Nat} : Py scr m ((pc, .astore 8, x) :: r) (l0 :: l1 :: l2 :: l3 :: l4 :: l5 :: l6 :: some (.inr (.inr (.inl b))) :: u :: l) (.inr (.inr (.inr (.inr (.inr a)))) :: st) h P = Py scr m r (l0 :: l1 :: l2 :: l3 :: l4 :: l5 :: l6 :: some (.inr (.inr (.inl b))) :: some (.inr (.inr (.inr (.inr (.inr a))))) :: l) st h P := py_sM (by simp [zset, zwide, zclean])
theorem py_astoreM8M {l0 l1 l2 l3 l4 l5 l6 : Option AV} {b : Nat} {u : Option AV} {a : Nat} {l : Lc} {x : List Nat} : Py scr m ((pc, .astore 8, x) :: r) (l0 :: l1 :: l2 :: l3 :: l4 :: l5 :: l6 :: some (.inr (.inr (.inr (.inr (.inr b))))) :: u :: l) (.inr (.inr (.inr (.inr (.inr a)))) :: st) h P = Py scr m r (l0 :: l1 :: l2 :: l3 :: l4 :: l5 :: l6 :: some (.inr (.inr (.inr (.inr (.inr b))))) :: some (.inr (.inr (.inr (.inr (.inr a))))) :: l) st h P := py_sM (by simp [zset, zwide, zclean])
theorem py_astoreR10N {l0 l1 l2 l3 l4 l5 l6 l7 l8 : Option AV} {u : Option AV} {a : Option Nat} {l : Lc} {x : List Nat} : Py scr m ((pc, .astore 10, x) :: r) (l0 :: l1 :: l2 :: l3 :: l4 :: l5 :: l6 :: l7 :: l8 :: none :: u :: l) (.inr (.inr (.inl a)) :: st) h P = Py scr m r (l0 :: l1 :: l2 :: l3 :: l4 :: l5 :: l6 :: l7 :: l8 :: none :: some (.inr (.inr (.inl a))) :: l) st h P := py_sR (by simp [zset, zwide, zclean])
theorem py_astoreR10I {l0 l1 l2 l3 l4 l5 l6 l7 l8 : Option AV} {b : Int} {u : Option AV} {a : Option Nat} {l : Lc} {x : List Nat} : Py scr m ((pc, .astore 10, x) :: r) (l0 :: l1 :: l2 :: l3 :: l4 :: l5 :: l6 :: l7 :: l8 :: some (.inl b) :: u :: l) (.inr (.inr (.inl a)) :: st) h P = Py scr m r (l0 :: l1 :: l2 :: l3 :: l4 :: l5 :: l6 :: l7 :: l8 :: some (.inl b) :: some (.inr (.inr (.inl a))) :: l) st h P := py_sR (by simp [zset, zwide, zclean])
theorem py_astoreR10R {l0 l1 l2 l3 l4 l5 l6 l7 l8 : Option AV} {b : Option Nat} {u : Option AV} {a : Option Nat} {l : Lc} {x : List Nat} : Py scr m ((pc, .astore 10, x) :: r) (l0 :: l1 :: l2 :: l3 :: l4 :: l5 :: l6 :: l7 :: l8 :: some (.inr (.inr (.inl b))) :: u :: l) (.inr (.inr (.inl a)) :: st) h P = Py scr m r (l0 :: l1 :: l2 :: l3 :: l4 :: l5 :: l6 :: l7 :: l8 :: some (.inr (.inr (.inl b))) :: some (.inr (.inr (.inl a))) :: l) st h P := py_sR (by simp [zset, zwide, zclean])
theorem py_astoreR10M {l0 l1 l2 l3 l4 l5 l6 l7 l8 : Option AV} {b : Nat} {u : Option AV} {a : Option Nat} {l : Lc} {x : List Nat} : Py scr m ((pc, .astore 10, x) :: r) (l0 :: l1 :: l2 :: l3 :: l4 :: l5 :: l6 :: l7 :: l8 :: some (.inr (.inr (.inr (.inr (.inr b))))) :: u :: l) (.inr (.inr (.inl a)) :: st) h P = Py scr m r (l0 :: l1 :: l2 :: l3 :: l4 :: l5 :: l6 :: l7 :: l8 :: some (.inr (.inr (.inr (.inr (.inr b))))) :: some (.inr (.inr (.inl a))) :: l) st h P := py_sR (by simp [zset, zwide, zclean])
theorem py_astoreM10N {l0 l1 l2 l3 l4 l5 l6 l7 l8 : Option AV} {u : Option AV} {a : Nat} {l : Lc} {x : List Nat} : Py scr m ((pc, .astore 10, x) :: r) (l0 :: l1 :: l2 :: l3 :: l4 :: l5 :: l6 :: l7 :: l8 :: none :: u :: l) (.inr (.inr (.inr (.inr (.inr a)))) :: st) h P = Py scr m r (l0 :: l1 :: l2 :: l3 :: l4 :: l5 :: l6 :: l7 :: l8 :: none :: some (.inr (.inr (.inr (.inr (.inr a))))) :: l) st h P := py_sM (by simp [zset, zwide, zclean])
theorem py_astoreM10I {l0 l1 l2 l3 l4 l5 l6 l7 l8 : Option AV} {b : Int} {u : Option AV} {a : Nat} {l : Lc} {x : List Nat} : Py scr m ((pc, .astore 10, x) :: r) (l0 :: l1 :: l2 :: l3 :: l4 :: l5 :: l6 :: l7 :: l8 :: some (.inl b) :: u :: l) (.inr (.inr (.inr (.inr (.inr a)))) :: st) h P = Py scr m r (l0 :: l1 :: l2 :: l3 :: l4 :: l5 :: l6 :: l7 :: l8 :: some (.inl b) :: some (.inr (.inr (.inr (.inr (.inr a))))) :: l) st h P := py_sM (by simp [zset, zwide, zclean])
theorem py_astoreM10R {l0 l1 l2 l3 l4 l5 l6 l7 l8 : Option AV} {b : Option Nat} {u : Option AV} {a : Nat} {l : Lc} {x : List Nat} : Py scr m ((pc, .astore 10, x) :: r) (l0 :: l1 :: l2 :: l3 :: l4 :: l5 :: l6 :: l7 :: l8 :: some (.inr (.inr (.inl b))) :: u :: l) (.inr (.inr (.inr (.inr (.inr a)))) :: st) h P = Py scr m r (l0 :: l1 :: l2 :: l3 :: l4 :: l5 :: l6 :: l7 :: l8 :: some (.inr (.inr (.inl b))) :: some (.inr (.inr (.inr (.inr (.inr a))))) :: l) st h P := py_sM (by simp [zset, zwide, zclean])
theorem py_astoreM10M {l0 l1 l2 l3 l4 l5 l6 l7 l8 : Option AV} {b : Nat} {u : Option AV} {a : Nat} {l : Lc} {x : List Nat} : Py scr m ((pc, .astore 10, x) :: r) (l0 :: l1 :: l2 :: l3 :: l4 :: l5 :: l6 :: l7 :: l8 :: some (.inr (.inr (.inr (.inr (.inr b))))) :: u :: l) (.inr (.inr (.inr (.inr (.inr a)))) :: st) h P = Py scr m r (l0 :: l1 :: l2 :: l3 :: l4 :: l5 :: l6 :: l7 :: l8 :: some (.inr (.inr (.inr (.inr (.inr b))))) :: some (.inr (.inr (.inr (.inr (.inr a))))) :: l) st h P := py_sM (by simp [zset, zwide, zclean])
theorem py_astoreR11N {l0 l1 l2 l3 l4 l5 l6 l7 l8 l9 : Option AV} {u : Option AV} {a : Option Nat} {l : Lc} {x : List Nat} : Py scr m ((pc, .astore 11, x) :: r) (l0 :: l1 :: l2 :: l3 :: l4 :: l5 :: l6 :: l7 :: l8 :: l9 :: none :: u :: l) (.inr (.inr (.inl a)) :: st) h P = Py scr m r (l0 :: l1 :: l2 :: l3 :: l4 :: l5 :: l6 :: l7 :: l8 :: l9 :: none :: some (.inr (.inr (.inl a))) :: l) st h P := py_sR (by simp [zset, zwide, zclean])
theorem py_astoreR11I {l0 l1 l2 l3 l4 l5 l6 l7 l8 l9 : Option AV} {b : Int} {u : Option AV} {a : Option Nat} {l : Lc} {x : List Nat} : Py scr m ((pc, .astore 11, x) :: r) (l0 :: l1 :: l2 :: l3 :: l4 :: l5 :: l6 :: l7 :: l8 :: l9 :: some (.inl b) :: u :: l) (.inr (.inr (.inl a)) :: st) h P = Py scr m r (l0 :: l1 :: l2 :: l3 :: l4 :: l5 :: l6 :: l7 :: l8 :: l9 :: some (.inl b) :: some (.inr (.inr (.inl a))) :: l) st h P := py_sR (by simp [zset, zwide, zclean])
theorem py_astoreR11R {l0 l1 l2 l3 l4 l5 l6 l7 l8 l9 : Option AV} {b : Option Nat} {u : Option AV} {a : Option Nat} {l : Lc} {x : List Nat} : Py scr m ((pc, .astore 11, x) :: r) (l0 :: l1 :: l2 :: l3 :: l4 :: l5 :: l6 :: l7 :: l8 :: l9 :: some (.inr (.inr (.inl b))) :: u :: l) (.inr (.inr (.inl a)) :: st) h P = Py scr m r (l0 :: l1 :: l2 :: l3 :: l4 :: l5 :: l6 :: l7 :: l8 :: l9 :: some (.inr (.inr (.inl b))) :: some (.inr (.inr (.inl a))) :: l) st h P := py_sR (by simp [zset, zwide, zclean])
theorem py_astoreR11M {l0 l1 l2 l3 l4 l5 l6 l7 l8 l9 : Option AV} {b : Nat} {u : Option AV} {a : Option Nat} {l : Lc} {x : List Nat} : Py scr m ((pc, .astore 11, x) :: r) (l0 :: l1 :: l2 :: l3 :: l4 :: l5 :: l6 :: l7 :: l8 :: l9 :: some (.inr (.inr (.inr (.inr (.inr b))))) :: u :: l) (.inr (.inr (.inl a)) :: st) h P = Py scr m r (l0 :: l1 :: l2 :: l3 :: l4 :: l5 :: l6 :: l7 :: l8 :: l9 :: some (.inr (.inr (.inr (.inr (.inr b))))) :: some (.inr (.inr (.inl a))) :: l) st h P := py_sR (by simp [zset, zwide, zclean])
theorem py_astoreM11N {l0 l1 l2 l3 l4 l5 l6 l7 l8 l9 : Option AV} {u : Option AV} {a : Nat} {l : Lc} {x : List Nat} : Py scr m ((pc, .astore 11, x) :: r) (l0 :: l1 :: l2 :: l3 :: l4 :: l5 :: l6 :: l7 :: l8 :: l9 :: none :: u :: l) (.inr (.inr (.inr (.inr (.inr a)))) :: st) h P = Py scr m r (l0 :: l1 :: l2 :: l3 :: l4 :: l5 :: l6 :: l7 :: l8 :: l9 :: none :: some (.inr (.inr (.inr (.inr (.inr a))))) :: l) st h P := py_sM (by simp [zset, zwide, zclean])
theorem py_astoreM11I {l0 l1 l2 l3 l4 l5 l6 l7 l8 l9 : Option AV} {b : Int} {u : Option AV} {a : Nat} {l : Lc} {x : List Nat} : Py scr m ((pc, .astore 11, x) :: r) (l0 :: l1 :: l2 :: l3 :: l4 :: l5 :: l6 :: l7 :: l8 :: l9 :: some (.inl b) :: u :: l) (.inr (.inr (.inr (.inr (.inr a)))) :: st) h P = Py scr m r (l0 :: l1 :: l2 :: l3 :: l4 :: l5 :: l6 :: l7 :: l8 :: l9 :: some (.inl b) :: some (.inr (.inr (.inr (.inr (.inr a))))) :: l) st h P := py_sM (by simp [zset, zwide, zclean])
theorem py_astoreM11R {l0 l1 l2 l3 l4 l5 l6 l7 l8 l9 : Option AV} {b : Option Nat} {u : Option AV} {a : Nat} {l : Lc} {x : List Nat} : Py scr m ((pc, .astore 11, x) :: r) (l0 :: l1 :: l2 :: l3 :: l4 :: l5 :: l6 :: l7 :: l8 :: l9 :: some (.inr (.inr (.inl b))) :: u :: l) (.inr (.inr (.inr (.inr (.inr a)))) :: st) h P = Py scr m r (l0 :: l1 :: l2 :: l3 :: l4 :: l5 :: l6 :: l7 :: l8 :: l9 :: some (.inr (.inr (.inl b))) :: some (.inr (.inr (.inr (.inr (.inr a))))) :: l) st h P := py_sM (by simp [zset, zwide, zclean])
theorem py_astoreM11M {l0 l1 l2 l3 l4 l5 l6 l7 l8 l9 : Option AV} {b : Nat} {u : Option AV} {a : Nat} {l : Lc} {x : List Nat} : Py scr m ((pc, .astore 11, x) :: r) (l0 :: l1 :: l2 :: l3 :: l4 :: l5 :: l6 :: l7 :: l8 :: l9 :: some (.inr (.inr (.inr (.inr (.inr b))))) :: u :: l) (.inr (.inr (.inr (.inr (.inr a)))) :: st) h P = Py scr m r (l0 :: l1 :: l2 :: l3 :: l4 :: l5 :: l6 :: l7 :: l8 :: l9 :: some (.inr (.inr (.inr (.inr (.inr b))))) :: some (.inr (.inr (.inr (.inr (.inr a))))) :: l) st h P := py_sM (by simp [zset, zwide, zclean])
theorem py_iinc1N {a d : Int} {l : Lc} {x : List Nat} : Py scr m ((pc, .iinc 1 d, x) :: r) (none :: some (.inl a) :: l) st h P = Py scr m r (none :: some (.inl (a + d)) :: l) st h P := py_sC (a := a) (d := d) ⟨rfl, by simp [zset, zwide, zclean]⟩
theorem py_iinc1I {b : Int} {a d : Int} {l : Lc} {x : List Nat} : Py scr m ((pc, .iinc 1 d, x) :: r) (some (.inl b) :: some (.inl a) :: l) st h P = Py scr m r (some (.inl b) :: some (.inl (a + d)) :: l) st h P := py_sC (a := a) (d := d) ⟨rfl, by simp [zset, zwide, zclean]⟩
theorem py_iinc1R {b : Option Nat} {a d : Int} {l : Lc} {x : List Nat} : Py scr m ((pc, .iinc 1 d, x) :: r) (some (.inr (.inr (.inl b))) :: some (.inl a) :: l) st h P = Py scr m r (some (.inr (.inr (.inl b))) :: some (.inl (a + d)) :: l) st h P := py_sC (a := a) (d := d) ⟨rfl, by simp [zset, zwide, zclean]⟩
theorem py_iinc1M {b : Nat} {a d : Int} {l : Lc} {x : List Nat} : Py scr m ((pc, .iinc 1 d, x) :: r) (some (.inr (.inr (.inr (.inr (.inr b))))) :: some (.inl a) :: l) st h P = Py scr m r (some (.inr (.inr (.inr (.inr (.inr b))))) :: some (.inl (a + d)) :: l) st h P := py_sC (a := a) (d := d) ⟨rfl, by simp [zset, zwide, zclean]⟩
theorem py_iinc2N {l0 : Option AV} {a d : Int} {l : Lc} {x : List Nat} : Py scr m ((pc, .iinc 2 d, x) :: r) (l0 :: none :: some (.inl a) :: l) st h P = Py scr m r (l0 :: none :: some (.inl (a + d)) :: l) st h P := py_sC (a := a) (d := d) ⟨rfl, by simp [zset, zwide, zclean]⟩
theorem py_iinc2I {l0 : Option AV} {b : Int} {a d : Int} {l : Lc} {x : List Nat} : Py scr m ((pc, .iinc 2 d, x) :: r) (l0 :: some (.inl b) :: some (.inl a) :: l) st h P = Py scr m r (l0 :: some (.inl b) :: some (.inl (a + d)) :: l) st h P := py_sC (a := a) (d := d) ⟨rfl, by simp [zset, zwide, zclean]⟩
theorem py_iinc2R {l0 : Option AV} {b : Option Nat} {a d : Int} {l : Lc} {x : List Nat} : Py scr m ((pc, .iinc 2 d, x) :: r) (l0 :: some (.inr (.inr (.inl b))) :: some (.inl a) :: l) st h P = Py scr m r (l0 :: some (.inr (.inr (.inl b))) :: some (.inl (a + d)) :: l) st h P := py_sC (a := a) (d := d) ⟨rfl, by simp [zset, zwide, zclean]⟩
theorem py_iinc2M {l0 : Option AV} {b : Nat} {a d : Int} {l : Lc} {x : List Nat} : Py scr m ((pc, .iinc 2 d, x) :: r) (l0 :: some (.inr (.inr (.inr (.inr (.inr b))))) :: some (.inl a) :: l) st h P = Py scr m r (l0 :: some (.inr (.inr (.inr (.inr (.inr b))))) :: some (.inl (a + d)) :: l) st h P := py_sC (a := a) (d := d) ⟨rfl, by simp [zset, zwide, zclean]⟩
theorem py_iinc3N {l0 l1 : Option AV} {a d : Int} {l : Lc} {x : List Nat} : Py scr m ((pc, .iinc 3 d, x) :: r) (l0 :: l1 :: none :: some (.inl a) :: l) st h P = Py scr m r (l0 :: l1 :: none :: some (.inl (a + d)) :: l) st h P := py_sC (a := a) (d := d) ⟨rfl, by simp [zset, zwide, zclean]⟩
theorem py_iinc3I {l0 l1 : Option AV} {b : Int} {a d : Int} {l : Lc} {x : List Nat} : Py scr m ((pc, .iinc 3 d, x) :: r) (l0 :: l1 :: some (.inl b) :: some (.inl a) :: l) st h P = Py scr m r (l0 :: l1 :: some (.inl b) :: some (.inl (a + d)) :: l) st h P := py_sC (a := a) (d := d) ⟨rfl, by simp [zset, zwide, zclean]⟩
theorem py_iinc3R {l0 l1 : Option AV} {b : Option Nat} {a d : Int} {l : Lc} {x : List Nat} : Py scr m ((pc, .iinc 3 d, x) :: r) (l0 :: l1 :: some (.inr (.inr (.inl b))) :: some (.inl a) :: l) st h P = Py scr m r (l0 :: l1 :: some (.inr (.inr (.inl b))) :: some (.inl (a + d)) :: l) st h P := py_sC (a := a) (d := d) ⟨rfl, by simp [zset, zwide, zclean]⟩
theorem py_iinc3M {l0 l1 : Option AV} {b : Nat} {a d : Int} {l : Lc} {x : List Nat} : Py scr m ((pc, .iinc 3 d, x) :: r) (l0 :: l1 :: some (.inr (.inr (.inr (.inr (.inr b))))) :: some (.inl a) :: l) st h P = Py scr m r (l0 :: l1 :: some (.inr (.inr (.inr (.inr (.inr b))))) :: some (.inl (a + d)) :: l) st h P := py_sC (a := a) (d := d) ⟨rfl, by simp [zset, zwide, zclean]⟩
theorem py_iinc4N {l0 l1 l2 : Option AV} {a d : Int} {l : Lc} {x : List Nat} : Py scr m ((pc, .iinc 4 d, x) :: r) (l0 :: l1 :: l2 :: none :: some (.inl a) :: l) st h P = Py scr m r (l0 :: l1 :: l2 :: none :: some (.inl (a + d)) :: l) st h P := py_sC (a := a) (d := d) ⟨rfl, by simp [zset, zwide, zclean]⟩
theorem py_iinc4I {l0 l1 l2 : Option AV} {b : Int} {a d : Int} {l : Lc} {x : List Nat} : Py scr m ((pc, .iinc 4 d, x) :: r) (l0 :: l1 :: l2 :: some (.inl b) :: some (.inl a) :: l) st h P = Py scr m r (l0 :: l1 :: l2 :: some (.inl b) :: some (.inl (a + d)) :: l) st h P := py_sC (a := a) (d := d) ⟨rfl, by simp [zset, zwide, zclean]⟩
theorem py_iinc4R {l0 l1 l2 : Option AV} {b : Option Nat} {a d : Int} {l : Lc} {x : List Nat} : Py scr m ((pc, .iinc 4 d, x) :: r) (l0 :: l1 :: l2 :: some (.inr (.inr (.inl b))) :: some (.inl a) :: l) st h P = Py scr m r (l0 :: l1 :: l2 :: some (.inr (.inr (.inl b))) :: some (.inl (a + d)) :: l) st h P := py_sC (a := a) (d := d) ⟨rfl, by simp [zset, zwide, zclean]⟩
theorem py_iinc4M {l0 l1 l2 : Option AV} {b : Nat} {a d : Int} {l : Lc} {x : List Nat} : Py scr m ((pc, .iinc 4 d, x) :: r) (l0 :: l1 :: l2 :: some (.inr (.inr (.inr (.inr (.inr b))))) :: some (.inl a) :: l) st h P = Py scr m r (l0 :: l1 :: l2 :: some (.inr (.inr (.inr (.inr (.inr b))))) :: some (.inl (a + d)) :: l) st h P := py_sC (a := a) (d := d) ⟨rfl, by simp [zset, zwide, zclean]⟩
theorem py_iinc5N {l0 l1 l2 l3 : Option AV} {a d : Int} {l : Lc} {x : List Nat} : Py scr m ((pc, .iinc 5 d, x) :: r) (l0 :: l1 :: l2 :: l3 :: none :: some (.inl a) :: l) st h P = Py scr m r (l0 :: l1 :: l2 :: l3 :: none :: some (.inl (a + d)) :: l) st h P := py_sC (a := a) (d := d) ⟨rfl, by simp [zset, zwide, zclean]⟩
theorem py_iinc5I {l0 l1 l2 l3 : Option AV} {b : Int} {a d : Int} {l : Lc} {x : List Nat} : Py scr m ((pc, .iinc 5 d, x) :: r) (l0 :: l1 :: l2 :: l3 :: some (.inl b) :: some (.inl a) :: l) st h P = Py scr m r (l0 :: l1 :: l2 :: l3 :: some (.inl b) :: some (.inl (a + d)) :: l) st h P := py_sC (a := a) (d := d) ⟨rfl, by simp [zset, zwide, zclean]⟩
theorem py_iinc5R {l0 l1 l2 l3 : Option AV} {b : Option Nat} {a d : Int} {l : Lc} {x : List Nat} : Py scr m ((pc, .iinc 5 d, x) :: r) (l0 :: l1 :: l2 :: l3 :: some (.inr (.inr (.inl b))) :: some (.inl a) :: l) st h P = Py scr m r (l0 :: l1 :: l2 :: l3 :: some (.inr (.inr (.inl b))) :: some (.inl (a + d)) :: l) st h P := py_sC (a := a) (d := d) ⟨rfl, by simp [zset, zwide, zclean]⟩
theorem py_iinc5M {l0 l1 l2 l3 : Option AV} {b : Nat} {a d : Int} {l : Lc} {x : List Nat} : Py scr m ((pc, .iinc 5 d, x) :: r) (l0 :: l1 :: l2 :: l3 :: some (.inr (.inr (.inr (.inr (.inr b))))) :: some (.inl a) :: l) st h P = Py scr m r (l0 :: l1 :: l2 :: l3 :: some (.inr (.inr (.inr (.inr (.inr b))))) :: some (.inl (a + d)) :: l) st h P := py_sC (a := a) (d := d) ⟨rfl, by simp [zset, zwide, zclean]⟩
theorem py_iinc6N {l0 l1 l2 l3 l4 : Option AV} {a d : Int} {l : Lc} {x : List Nat} : Py scr m ((pc, .iinc 6 d, x) :: r) (l0 :: l1 :: l2 :: l3 :: l4 :: none :: some (.inl a) :: l) st h P = Py scr m r (l0 :: l1 :: l2 :: l3 :: l4 :: none :: some (.inl (a + d)) :: l) st h P := py_sC (a := a) (d := d) ⟨rfl, by simp [zset, zwide, zclean]⟩
theorem py_iinc6I {l0 l1 l2 l3 l4 : Option AV} {b : Int} {a d : Int} {l : Lc} {x : List Nat} : Py scr m ((pc, .iinc 6 d, x) :: r) (l0 :: l1 :: l2 :: l3 :: l4 :: some (.inl b) :: some (.inl a) :: l) st h P = Py scr m r (l0 :: l1 :: l2 :: l3 :: l4 :: some (.inl b) :: some (.inl (a + d)) :: l) st h P := py_sC (a := a) (d := d) ⟨rfl, by simp [zset, zwide, zclean]⟩
theorem py_iinc6R {l0 l1 l2 l3 l4 : Option AV} {b : Option Nat} {a d : Int} {l : Lc} {x : List Nat} : Py scr m ((pc, .iinc 6 d, x) :: r) (l0 :: l1 :: l2 :: l3 :: l4 :: some (.inr (.inr (.inl b))) :: some (.inl a) :: l) st h P = Py scr m r (l0 :: l1 :: l2 :: l3 :: l4 :: some (.inr (.inr (.inl b))) :: some (.inl (a + d)) :: l) st h P := py_sC (a := a) (d := d) ⟨rfl, by simp [zset, zwide, zclean]⟩
theorem py_iinc6M {l0 l1 l2 l3 l4 : Option AV} {b : Nat} {a d : Int} {l : Lc} {x : List Nat} : Py scr m ((pc, .iinc 6 d, x) :: r) (l0 :: l1 :: l2 :: l3 :: l4 :: some (.inr (.inr (.inr (.inr (.inr b))))) :: some (.inl a) :: l) st h P = Py scr m r (l0 :: l1 :: l2 :: l3 :: l4 :: some (.inr (.inr (.inr (.inr (.inr b))))) :: some (.inl (a + d)) :: l) st h P := py_sC (a := a) (d := d) ⟨rfl, by simp [zset, zwide, zclean]⟩
theorem py_iinc7N {l0 l1 l2 l3 l4 l5 : Option AV} {a d : Int} {l : Lc} {x : List Nat} : Py scr m ((pc, .iinc 7 d, x) :: r) (l0 :: l1 :: l2 :: l3 :: l4 :: l5 :: none :: some (.inl a) :: l) st h P = Py scr m r (l0 :: l1 :: l2 :: l3 :: l4 :: l5 :: none :: some (.inl (a + d)) :: l) st h P := py_sC (a := a) (d := d) ⟨rfl, by simp [zset, zwide, zclean]⟩
theorem py_iinc7I {l0 l1 l2 l3 l4 l5 : Option AV} {b : Int} {a d : Int} {l : Lc} {x : List Nat} : Py scr m ((pc, .iinc 7 d, x) :: r) (l0 :: l1 :: l2 :: l3 :: l4 :: l5 :: some (.inl b) :: some (.inl a) :: l) st h P = Py scr m r (l0 :: l1 :: l2 :: l3 :: l4 :: l5 :: some (.inl b) :: some (.inl (a + d)) :: l) st h P := py_sC (a := a) (d := d) ⟨rfl, by simp [zset, zwide, zclean]⟩
theorem py_iinc7R {l0 l1 l2 l3 l4 l5 : Option AV} {b : Option Nat} {a d : Int} {l : Lc} {x : List Nat} : Py scr m ((pc, .iinc 7 d, x) :: r) (l0 :: l1 :: l2 :: l3 :: l4 :: l5 :: some (.inr (.inr (.inl b))) :: some (.inl a) :: l) st h P = Py scr m r (l0 :: l1 :: l2 :: l3 :: l4 :: l5 :: some (.inr (.inr (.inl b))) :: some (.inl (a + d)) :: l) st h P := py_sC (a := a) (d := d) ⟨rfl, by simp [zset, zwide, zclean]⟩
theorem py_iinc7M {l0 l1 l2 l3 l4 l5 : Option AV} {b : Nat} {a d : Int} {l : Lc} {x : List Nat} : Py scr m ((pc, .iinc 7 d, x) :: r) (l0 :: l1 :: l2 :: l3 :: l4 :: l5 :: some (.inr (.inr (.inr (.inr (.inr b))))) :: some (.inl a) :: l) st h P = Py scr m r (l0 :: l1 :: l2 :: l3 :: l4 :: l5 :: some (.inr (.inr (.inr (.inr (.inr b))))) :: some (.inl (a + d)) :: l) st h P := py_sC (a := a) (d := d) ⟨rfl, by simp [zset, zwide, zclean]⟩
theorem py_iinc8N {l0 l1 l2 l3 l4 l5 l6 : Option AV} {a d : Int} {l : Lc} {x : List Nat} : Py scr m ((pc, .iinc 8 d, x) :: r) (l0 :: l1 :: l2 :: l3 :: l4 :: l5 :: l6 :: none :: some (.inl a) :: l) st h P = Py scr m r (l0 :: l1 :: l2 :: l3 :: l4 :: l5 :: l6 :: none :: some (.inl (a + d)) :: l) st h P := py_sC (a := a) (d := d) ⟨rfl, by simp [zset, zwide, zclean]⟩
theorem py_iinc8I {l0 l1 l2 l3 l4 l5 l6 : Option AV} {b : Int} {a d : Int} {l : Lc} {x : List Nat} : Py scr m ((pc, .iinc 8 d, x) :: r) (l0 :: l1 :: l2 :: l3 :: l4 :: l5 :: l6 :: some (.inl b) :: some (.inl a) :: l) st h P = Py scr m r (l0 :: l1 :: l2 :: l3 :: l4 :: l5 :: l6 :: some (.inl b) :: some (.inl (a + d)) :: l) st h P := py_sC (a := a) (d := d) ⟨rfl, by simp [zset, zwide, zclean]⟩
theorem py_iinc8R {l0 l1 l2 l3 l4 l5 l6 : Option AV} {b : Option Nat} {a d : Int} {l : Lc} {x : List Nat} : Py scr m ((pc, .iinc 8 d, x) :: r) (l0 :: l1 :: l2 :: l3 :: l4 :: l5 :: l6 :: some (.inr (.inr (.inl b))) :: some (.inl a) :: l) st h P = Py scr m r (l0 :: l1 :: l2 :: l3 :: l4 :: l5 :: l6 :: some (.inr (.inr (.inl b))) :: some (.inl (a + d)) :: l) st h P := py_sC (a := a) (d := d) ⟨rfl, by simp [zset, zwide, zclean]⟩
theorem py_iinc8M {l0 l1 l2 l3 l4 l5 l6 : Option AV} {b : Nat} {a d : Int} {l : Lc} {x : List Nat} : Py scr m ((pc, .iinc 8 d, x) :: r) (l0 :: l1 :: l2 :: l3 :: l4 :: l5 :: l6 :: some (.inr (.inr (.inr (.inr (.inr b))))) :: some (.inl a) :: l) st h P = Py scr m r (l0 :: l1 :: l2 :: l3 :: l4 :: l5 :: l6 :: some (.inr (.inr (.inr (.inr (.inr b))))) :: some (.inl (a + d)) :: l) st h P := py_sC (a := a) (d := d) ⟨rfl, by simp [zset, zwide, zclean]⟩
theorem py_iinc9N {l0 l1 l2 l3 l4 l5 l6 l7 : Option AV} {a d : Int} {l : Lc} {x : List Nat} : Py scr m ((pc, .iinc 9 d, x) :: r) (l0 :: l1 :: l2 :: l3 :: l4 :: l5 :: l6 :: l7 :: none :: some (.inl a) :: l) st h P = Py scr m r (l0 :: l1 :: l2 :: l3 :: l4 :: l5 :: l6 :: l7 :: none :: some (.inl (a + d)) :: l) st h P := py_sC (a := a) (d := d) ⟨rfl, by simp [zset, zwide, zclean]⟩
theorem py_iinc9I {l0 l1 l2 l3 l4 l5 l6 l7 : Option AV} {b : Int} {a d : Int} {l : Lc} {x : List Nat} : Py scr m ((pc, .iinc 9 d, x) :: r) (l0 :: l1 :: l2 :: l3 :: l4 :: l5 :: l6 :: l7 :: some (.inl b) :: some (.inl a) :: l) st h P = Py scr m r (l0 :: l1 :: l2 :: l3 :: l4 :: l5 :: l6 :: l7 :: some (.inl b) :: some (.inl (a + d)) :: l) st h P := py_sC (a := a) (d := d) ⟨rfl, by simp [zset, zwide, zclean]⟩
theorem py_iinc9R {l0 l1 l2 l3 l4 l5 l6 l7 : Option AV} {b : Option Nat} {a d : Int} {l : Lc} {x : List Nat} : Py scr m ((pc, .iinc 9 d, x) :: r) (l0 :: l1 :: l2 :: l3 :: l4 :: l5 :: l6 :: l7 :: some (.inr (.inr (.inl b))) :: some (.inl a) :: l) st h P = Py scr m r (l0 :: l1 :: l2 :: l3 :: l4 :: l5 :: l6 :: l7 :: some (.inr (.inr (.inl b))) :: some (.inl (a + d)) :: l) st h P := py_sC (a := a) (d := d) ⟨rfl, by simp [zset, zwide, zclean]⟩
theorem py_iinc9M {l0 l1 l2 l3 l4 l5 l6 l7 : Option AV} {b : Nat} {a d : Int} {l : Lc} {x : List Nat} : Py scr m ((pc, .iinc 9 d, x) :: r) (l0 :: l1 :: l2 :: l3 :: l4 :: l5 :: l6 :: l7 :: some (.inr (.inr (.inr (.inr (.inr b))))) :: some (.inl a) :: l) st h P = Py scr m r (l0 :: l1 :: l2 :: l3 :: l4 :: l5 :: l6 :: l7 :: some (.inr (.inr (.inr (.inr (.inr b))))) :: some (.inl (a + d)) :: l) st h P := py_sC (a := a) (d := d) ⟨rfl, by simp [zset, zwide, zclean]⟩
theorem py_iinc10N {l0 l1 l2 l3 l4 l5 l6 l7 l8 : Option AV} {a d : Int} {l : Lc} {x : List Nat} : Py scr m ((pc, .iinc 10 d, x) :: r) (l0 :: l1 :: l2 :: l3 :: l4 :: l5 :: l6 :: l7 :: l8 :: none :: some (.inl a) :: l) st h P = Py scr m r (l0 :: l1 :: l2 :: l3 :: l4 :: l5 :: l6 :: l7 :: l8 :: none :: some (.inl (a + d)) :: l) st h P := py_sC (a := a) (d := d) ⟨rfl, by simp [zset, zwide, zclean]⟩
theorem py_iinc10I {l0 l1 l2 l3 l4 l5 l6 l7 l8 : Option AV} {b : Int} {a d : Int} {l : Lc} {x : List Nat} : Py scr m ((pc, .iinc 10 d, x) :: r) (l0 :: l1 :: l2 :: l3 :: l4 :: l5 :: l6 :: l7 :: l8 :: some (.inl b) :: some (.inl a) :: l) st h P = Py scr m r (l0 :: l1 :: l2 :: l3 :: l4 :: l5 :: l6 :: l7 :: l8 :: some (.inl b) :: some (.inl (a + d)) :: l) st h P := py_sC (a := a) (d := d) ⟨rfl, by simp [zset, zwide, zclean]⟩
theorem py_iinc10R {l0 l1 l2 l3 l4 l5 l6 l7 l8 : Option AV} {b : Option Nat} {a d : Int} {l : Lc} {x : List Nat} : Py scr m ((pc, .iinc 10 d, x) :: r) (l0 :: l1 :: l2 :: l3 :: l4 :: l5 :: l6 :: l7 :: l8 :: some (.inr (.inr (.inl b))) :: some (.inl a) :: l) st h P = Py scr m r (l0 :: l1 :: l2 :: l3 :: l4 :: l5 :: l6 :: l7 :: l8 :: some (.inr (.inr (.inl b))) :: some (.inl (a + d)) :: l) st h P := py_sC (a := a) (d := d) ⟨rfl, by simp [zset, zwide, zclean]⟩
theorem py_iinc10M {l0 l1 l2 l3 l4 l5 l6 l7 l8 : Option AV} {b : Nat} {a d : Int} {l : Lc} {x : List Nat} : Py scr m ((pc, .iinc 10 d, x) :: r) (l0 :: l1 :: l2 :: l3 :: l4 :: l5 :: l6 :: l7 :: l8 :: some (.inr (.inr (.inr (.inr (.inr b))))) :: some (.inl a) :: l) st h P = Py scr m r (l0 :: l1 :: l2 :: l3 :: l4 :: l5 :: l6 :: l7 :: l8 :: some (.inr (.inr (.inr (.inr (.inr b))))) :: some (.inl (a + d)) :: l) st h P := py_sC (a := a) (d := d) ⟨rfl, by simp [zset, zwide, zclean]⟩
theorem py_iinc11N {l0 l1 l2 l3 l4 l5 l6 l7 l8 l9 : Option AV} {a d : Int} {l : Lc} {x : List Nat} : Py scr m ((pc, .iinc 11 d, x) :: r) (l0 :: l1 :: l2 :: l3 :: l4 :: l5 :: l6 :: l7 :: l8 :: l9 :: none :: some (.inl a) :: l) st h P = Py scr m r (l0 :: l1 :: l2 :: l3 :: l4 :: l5 :: l6 :: l7 :: l8 :: l9 :: none :: some (.inl (a + d)) :: l) st h P := py_sC (a := a) (d := d) ⟨rfl, by simp [zset, zwide, zclean]⟩
theorem py_iinc11I {l0 l1 l2 l3 l4 l5 l6 l7 l8 l9 : Option AV} {b : Int} {a d : Int} {l : Lc} {x : List Nat} : Py scr m ((pc, .iinc 11 d, x) :: r) (l0 :: l1 :: l2 :: l3 :: l4 :: l5 :: l6 :: l7 :: l8 :: l9 :: some (.inl b) :: some (.inl a) :: l) st h P = Py scr m r (l0 :: l1 :: l2 :: l3 :: l4 :: l5 :: l6 :: l7 :: l8 :: l9 :: some (.inl b) :: some (.inl (a + d)) :: l) st h P := py_sC (a := a) (d := d) ⟨rfl, by simp [zset, zwide, zclean]⟩
theorem py_iinc11R {l0 l1 l2 l3 l4 l5 l6 l7 l8 l9 : Option AV} {b : Option Nat} {a d : Int} {l : Lc} {x : List Nat} : Py scr m ((pc, .iinc 11 d, x) :: r) (l0 :: l1 :: l2 :: l3 :: l4 :: l5 :: l6 :: l7 :: l8 :: l9 :: some (.inr (.inr (.inl b))) :: some (.inl a) :: l) st h P = Py scr m r (l0 :: l1 :: l2 :: l3 :: l4 :: l5 :: l6 :: l7 :: l8 :: l9 :: some (.inr (.inr (.inl b))) :: some (.inl (a + d)) :: l) st h P := py_sC (a := a) (d := d) ⟨rfl, by simp [zset, zwide, zclean]⟩
theorem py_iinc11M {l0 l1 l2 l3 l4 l5 l6 l7 l8 l9 : Option AV} {b : Nat} {a d : Int} {l : Lc} {x : List Nat} : Py scr m ((pc, .iinc 11 d, x) :: r) (l0 :: l1 :: l2 :: l3 :: l4 :: l5 :: l6 :: l7 :: l8 :: l9 :: some (.inr (.inr (.inr (.inr (.inr b))))) :: some (.inl a) :: l) st h P = Py scr m r (l0 :: l1 :: l2 :: l3 :: l4 :: l5 :: l6 :: l7 :: l8 :: l9 :: some (.inr (.inr (.inr (.inr (.inr b))))) :: some (.inl (a + d)) :: l) st h P := py_sC (a := a) (d := d) ⟨rfl, by simp [zset, zwide, zclean]⟩
theorem py_iinc12N {l0 l1 l2 l3 l4 l5 l6 l7 l8 l9 l10 : Option AV} {a d : Int} {l : Lc} {x : List Nat} : Py scr m ((pc, .iinc 12 d, x) :: r) (l0 :: l1 :: l2 :: l3 :: l4 :: l5 :: l6 :: l7 :: l8 :: l9 :: l10 :: none :: some (.inl a) :: l) st h P = Py scr m r (l0 :: l1 :: l2 :: l3 :: l4 :: l5 :: l6 :: l7 :: l8 :: l9 :: l10 :: none :: some (.inl (a + d)) :: l) st h P := py_sC (a := a) (d := d) ⟨rfl, by simp [zset, zwide, zclean]⟩
theorem py_iinc12I {l0 l1 l2 l3 l4 l5 l6 l7 l8 l9 l10 : Option AV} {b : Int} {a d : Int} {l : Lc} {x : List Nat} : Py scr m ((pc, .iinc 12 d, x) :: r) (l0 :: l1 :: l2 :: l3 :: l4 :: l5 :: l6 :: l7 :: l8 :: l9 :: l10 :: some (.inl b) :: some (.inl a) :: l) st h P = Py scr m r (l0 :: l1 :: l2 :: l3 :: l4 :: l5 :: l6 :: l7 :: l8 :: l9 :: l10 :: some (.inl b) :: some (.inl (a + d)) :: l) st h P := py_sC (a := a) (d := d) ⟨rfl, by simp [zset, zwide, zclean]⟩
theorem py_iinc12R {l0 l1 l2 l3 l4 l5 l6 l7 l8 l9 l10 : Option AV} {b : Option Nat} {a d : Int} {l : Lc} {x : List Nat} : Py scr m ((pc, .iinc 12 d, x) :: r) (l0 :: l1 :: l2 :: l3 :: l4 :: l5 :: l6 :: l7 :: l8 :: l9 :: l10 :: some (.inr (.inr (.inl b))) :: some (.inl a) :: l) st h P = Py scr m r (l0 :: l1 :: l2 :: l3 :: l4 :: l5 :: l6 :: l7 :: l8 :: l9 :: l10 :: some (.inr (.inr (.inl b))) :: some (.inl (a + d)) :: l) st h P := py_sC (a := a) (d := d) ⟨rfl, by simp [zset, zwide, zclean]⟩
theorem py_iinc12M {l0 l1 l2 l3 l4 l5 l6 l7 l8 l9 l10 : Option AV} {b : Nat} {a d : Int} {l : Lc} {x : List Nat} : Py scr m ((pc, .iinc 12 d, x) :: r) (l0 :: l1 :: l2 :: l3 :: l4 :: l5 :: l6 :: l7 :: l8 :: l9 :: l10 :: some (.inr (.inr (.inr (.inr (.inr b))))) :: some (.inl a) :: l) st h P = Py scr m r (l0 :: l1 :: l2 :: l3 :: l4 :: l5 :: l6 :: l7 :: l8 :: l9 :: l10 :: some (.inr (.inr (.inr (.inr (.inr b))))) :: some (.inl (a + d)) :: l) st h P := py_sC (a := a) (d := d) ⟨rfl, by simp [zset, zwide, zclean]⟩
theorem py_iconst {c : Int} {x : List Nat} : Py scr m ((pc, .iconst c, x) :: r) ls st h P = Py scr m r ls (.inl c :: st) h P := py_step rfl rfl ⟨rfl, rfl⟩ (fun _ => rfl)
theorem py_null {x : List Nat} : Py scr m ((pc, .aconst_null, x) :: r) ls st h P = Py scr m r ls (.inr (.inr (.inl none)) :: st) h P := py_step rfl rfl ⟨rfl, rfl⟩ (fun _ => rfl)
theorem py_ldc {i v : Nat} : Py scr m ((pc, .ldc i, [v]) :: r) ls st h P = Py scr m r ls (.inl (v : Int) :: st) h P := py_step rfl rfl ⟨rfl, rfl⟩ (fun _ => rfl)
theorem py_ldcL0 {i v : Nat} : Py scr m ((pc, .ldc2_w i, [v, 0]) :: r) ls st h P = Py scr m r ls (.inr (.inl (v : Int)) :: st) h P := py_step rfl rfl ⟨rfl, rfl⟩ (fun _ => rfl)
theorem py_ldcL1 {i v : Nat} : Py scr m ((pc, .ldc2_w i, [v, 1]) :: r) ls st h P = Py scr m r ls (.inr (.inl (-(v : Int))) :: st) h P := py_step rfl rfl ⟨rfl, rfl⟩ (fun _ => rfl)
theorem py_fconst {x : List Nat} : Py scr m ((pc, .fconst 0, x) :: r) ls st h P = Py scr m r ls (.inr (.inr (.inr (.inl 0))) :: st) h P := py_step rfl rfl ⟨rfl, rfl⟩ (fun _ => rfl)
theorem py_dconst {x : List Nat} : Py scr m ((pc, .dconst 0, x) :: r) ls st h P = Py scr m r ls (.inr (.inr (.inr (.inr (.inl 0)))) :: st) h P := py_step rfl rfl ⟨rfl, rfl⟩ (fun _ => rfl)
theorem py_dupI {a : Int} {x : List Nat} : Py scr m ((pc, .dup, x) :: r) ls (.inl a :: st) h P = Py scr m r ls (.inl a :: .inl a :: st) h P := py_step rfl rfl ⟨rfl, rfl⟩ (fun _ => rfl)
theorem py_dupR {a : Option Nat} {x : List Nat} : Py scr m ((pc, .dup, x) :: r) ls (.inr (.inr (.inl a)) :: st) h P = Py scr m r ls (.inr (.inr (.inl a)) :: .inr (.inr (.inl a)) :: st) h P := py_step rfl rfl ⟨rfl, rfl⟩ (fun _ => rfl)
theorem py_popI {a : Int} {x : List Nat} : Py scr m ((pc, .pop, x) :: r) ls (.inl a :: st) h P = Py scr m r ls st h P := py_step rfl rfl ⟨rfl, rfl⟩ (fun _ => rfl)
theorem py_popR {a : Option Nat} {x : List Nat} : Py scr m ((pc, .pop, x) :: r) ls (.inr (.inr (.inl a)) :: st) h P = Py scr m r ls st h P := py_step rfl rfl ⟨rfl, rfl⟩ (fun _ => rfl)
theorem py_dupx1I {a : Int} {b : Option Nat} {x : List Nat} : Py scr m ((pc, .dup_x1, x) :: r) ls (.inl a :: .inr (.inr (.inl b)) :: st) h P = Py scr m r ls (.inl a :: .inr (.inr (.inl b)) :: .inl a :: st) h P := py_step rfl rfl ⟨rfl, rfl⟩ (fun _ => rfl)
theorem py_dupx1R {a : Option Nat} {b : Option Nat} {x : List Nat} : Py scr m ((pc, .dup_x1, x) :: r) ls (.inr (.inr (.inl a)) :: .inr (.inr (.inl b)) :: st) h P = Py scr m r ls (.inr (.inr (.inl a)) :: .inr (.inr (.inl b)) :: .inr (.inr (.inl a)) :: st) h P := py_step rfl rfl ⟨rfl, rfl⟩ (fun _ => rfl)
theorem py_dup2 {a : Int} {b : Option Nat} {x : List Nat} : Py scr m ((pc, .dup2, x) :: r) ls (.inl a :: .inr (.inr (.inl b)) :: st) h P = Py scr m r ls (.inl a :: .inr (.inr (.inl b)) :: .inl a :: .inr (.inr (.inl b)) :: st) h P := py_step rfl rfl ⟨rfl, rfl⟩ (fun _ => rfl)
theorem py_iadd {a b : Int} {x : List Nat} : Py scr m ((pc, .iadd, x) :: r) ls (.inl b :: .inl a :: st) h P = Py scr m r ls (.inl (a + b) :: st) h P := py_step rfl rfl ⟨rfl, rfl⟩ (fun _ => rfl)
theorem py_isub {a b : Int} {x : List Nat} : Py scr m ((pc, .isub, x) :: r) ls (.inl b :: .inl a :: st) h P = Py scr m r ls (.inl (a - b) :: st) h P := py_step rfl rfl ⟨rfl, rfl⟩ (fun _ => rfl)
theorem py_imul {a b : Int} {x : List Nat} : Py scr m ((pc, .imul, x) :: r) ls (.inl b :: .inl a :: st) h P = Py scr m r ls (.inl (a * b) :: st) h P := py_step rfl rfl ⟨rfl, rfl⟩ (fun _ => rfl)
theorem py_ladd {a b : Int} {x : List Nat} : Py scr m ((pc, .ladd, x) :: r) ls (.inr (.inl b) :: .inr (.inl a) :: st) h P = Py scr m r ls (.inr (.inl (a + b)) :: st) h P := py_step rfl rfl ⟨rfl, rfl⟩ (fun _ => rfl)
theorem py_lmul {a b : Int} {x : List Nat} : Py scr m ((pc, .lmul, x) :: r) ls (.inr (.inl b) :: .inr (.inl a) :: st) h P = Py scr m r ls (.inr (.inl (a * b)) :: st) h P := py_step rfl rfl ⟨rfl, rfl⟩ (fun _ => rfl)
theorem py_idiv {a b : Int} {x : List Nat} (h0 : b ≠ 0) (h1 : -2147483648 ≤ b) (h2 : b < 2147483648) : Py scr m ((pc, .idiv, x) :: r) ls (.inl b :: .inl a :: st) h P = Py scr m r ls (.inl (ndiv (nrm a) b) :: st) h P := py_step rfl rfl ⟨rfl, rfl⟩ (fun _ => by show (if nrm b = 0 then none else _) = _; rw [nrm_id h1 h2, if_neg h0])
theorem py_irem {a b : Int} {x : List Nat} (h0 : b ≠ 0) (h1 : -2147483648 ≤ b) (h2 : b < 2147483648) : Py scr m ((pc, .irem, x) :: r) ls (.inl b :: .inl a :: st) h P = Py scr m r ls (.inl (nrem (nrm a) b) :: st) h P := py_step rfl rfl ⟨rfl, rfl⟩ (fun _ => by show (if nrm b = 0 then none else _) = _; rw [nrm_id h1 h2, if_neg h0])
theorem py_ldiv {a b : Int} {x : List Nat} (h0 : b ≠ 0) (h1 : -9223372036854775808 ≤ b) (h2 : b < 9223372036854775808) : Py scr m ((pc, .ldiv, x) :: r) ls (.inr (.inl b) :: .inr (.inl a) :: st) h P = Py scr m r ls (.inr (.inl (ndiv (nrL a) b)) :: st) h P := py_step rfl rfl ⟨rfl, rfl⟩ (fun _ => by show (if nrL b = 0 then none else _) = _; rw [nrL_id h1 h2, if_neg h0])
theorem py_lrem {a b : Int} {x : List Nat} (h0 : b ≠ 0) (h1 : -9223372036854775808 ≤ b) (h2 : b < 9223372036854775808) : Py scr m ((pc, .lrem, x) :: r) ls (.inr (.inl b) :: .inr (.inl a) :: st) h P = Py scr m r ls (.inr (.inl (nrem (nrL a) b)) :: st) h P := py_step rfl rfl ⟨rfl, rfl⟩ (fun _ => by show (if nrL b = 0 then none else _) = _; rw [nrL_id h1 h2, if_neg h0])
theorem py_iand {a b : Int} {x : List Nat} : Py scr m ((pc, .iand, x) :: r) ls (.inl b :: .inl a :: st) h P = Py scr m r ls (.inl (z32 a &&& z32 b).toInt :: st) h P := py_step rfl rfl ⟨rfl, rfl⟩ (fun _ => rfl)
theorem py_ixor {a b : Int} {x : List Nat} : Py scr m ((pc, .ixor, x) :: r) ls (.inl b :: .inl a :: st) h P = Py scr m r ls (.inl (z32 a ^^^ z32 b).toInt :: st) h P := py_step rfl rfl ⟨rfl, rfl⟩ (fun _ => rfl)
theorem py_ishl {a b : Int} {x : List Nat} : Py scr m ((pc, .ishl, x) :: r) ls (.inl b :: .inl a :: st) h P = Py scr m r ls (.inl (z32 a <<< (z32 b &&& 31)).toInt :: st) h P := py_step rfl rfl ⟨rfl, rfl⟩ (fun _ => rfl)
theorem py_ishr {a b : Int} {x : List Nat} : Py scr m ((pc, .ishr, x) :: r) ls (.inl b :: .inl a :: st) h P = Py scr m r ls (.inl (z32 a >>> (z32 b &&& 31)).toInt :: st) h P := py_step rfl rfl ⟨rfl, rfl⟩ (fun _ => rfl)
theorem py_lcmp {a b : Int} {x : List Nat} : Py scr m ((pc, .lcmp, x) :: r) ls (.inr (.inl b) :: .inr (.inl a) :: st) h P = Py scr m r ls (.inl (zcmp (nrL a) (nrL b)) :: st) h P := py_step rfl rfl ⟨rfl, rfl⟩ (fun _ => rfl)
theorem py_i2l {a : Int} {x : List Nat} : Py scr m ((pc, .i2l, x) :: r) ls (.inl a :: st) h P = Py scr m r ls (.inr (.inl (nrm a)) :: st) h P := py_step rfl rfl ⟨rfl, rfl⟩ (fun _ => rfl)
theorem py_l2i {a : Int} {x : List Nat} : Py scr m ((pc, .l2i, x) :: r) ls (.inr (.inl a) :: st) h P = Py scr m r ls (.inl a :: st) h P := py_step rfl rfl ⟨rfl, rfl⟩ (fun _ => rfl)
theorem py_i2c {a : Int} {x : List Nat} : Py scr m ((pc, .i2c, x) :: r) ls (.inl a :: st) h P = Py scr m r ls (.inl (a % 65536) :: st) h P := py_step rfl rfl ⟨rfl, rfl⟩ (fun _ => rfl)
theorem py_i2f {a : Int} {x : List Nat} : Py scr m ((pc, .i2f, x) :: r) ls (.inl a :: st) h P = Py scr m r ls (.inr (.inr (.inr (.inl (FP.i2f (z32 a))))) :: st) h P := py_step rfl rfl ⟨rfl, rfl⟩ (fun _ => rfl)
theorem py_i2d {a : Int} {x : List Nat} : Py scr m ((pc, .i2d, x) :: r) ls (.inl a :: st) h P = Py scr m r ls (.inr (.inr (.inr (.inr (.inl (FP.i2d (z32 a)))))) :: st) h P := py_step rfl rfl ⟨rfl, rfl⟩ (fun _ => rfl)
theorem py_f2d {a : UInt32} {x : List Nat} (hz : FP.f2d a &&& 0x7fffffffffffffff ≤ 0x7ff0000000000000) : Py scr m ((pc, .f2d, x) :: r) ls (.inr (.inr (.inr (.inl a))) :: st) h P = Py scr m r ls (.inr (.inr (.inr (.inr (.inl (FP.f2d a))))) :: st) h P := py_step rfl rfl ⟨rfl, rfl⟩ (fun _ => if_pos hz)
theorem py_fdiv {a b : UInt32} {x : List Nat} (hz : FP.fdiv a b &&& 0x7fffffff ≤ 0x7f800000) : Py scr m ((pc, .fdiv, x) :: r) ls (.inr (.inr (.inr (.inl b))) :: .inr (.inr (.inr (.inl a))) :: st) h P = Py scr m r ls (.inr (.inr (.inr (.inl (FP.fdiv a b)))) :: st) h P := py_step rfl rfl ⟨rfl, rfl⟩ (fun _ => if_pos hz)
theorem py_ddiv {a b : UInt64} {x : List Nat} (hz : FP.ddiv a b &&& 0x7fffffffffffffff ≤ 0x7ff0000000000000) : Py scr m ((pc, .ddiv, x) :: r) ls (.inr (.inr (.inr (.inr (.inl b)))) :: .inr (.inr (.inr (.inr (.inl a)))) :: st) h P = Py scr m r ls (.inr (.inr (.inr (.inr (.inl (FP.ddiv a b))))) :: st) h P := py_step rfl rfl ⟨rfl, rfl⟩ (fun _ => if_pos hz)
theorem py_dcmp {a b : UInt64} {o : CmpOp} {x : List Nat} : Py scr m ((pc, .dcmp o, x) :: r) ls (.inr (.inr (.inr (.inr (.inl b)))) :: .inr (.inr (.inr (.inr (.inl a)))) :: st) h P = Py scr m r ls (.inl (Op.cmpValue (FP.dcmp a b) o).toInt :: st) h P := py_step rfl rfl ⟨rfl, rfl⟩ (fun _ => rfl)
theorem py_fcmp {a b : UInt32} {o : CmpOp} {x : List Nat} : Py scr m ((pc, .fcmp o, x) :: r) ls (.inr (.inr (.inr (.inl b))) :: .inr (.inr (.inr (.inl a))) :: st) h P = Py scr m r ls (.inl (Op.cmpValue (FP.fcmp a b) o).toInt :: st) h P := py_step rfl rfl ⟨rfl, rfl⟩ (fun _ => rfl)
theorem py_goto {o : Int} {L : Nat} : Py scr m ((pc, .goto o, [L]) :: r) ls st h P = Py scr m (zprog m L) ls st h P := py_step rfl rfl ⟨rfl, rfl⟩ (fun _ => rfl)
theorem py_nop {L : Nat} : Py scr m ((pc, .nop, [L]) :: r) ls st h P = Py scr m (zprog m L) ls st h P := py_step rfl rfl ⟨rfl, rfl⟩ (fun _ => rfl)
theorem py_br {i : Instr} {x : List Nat} {c : Bool} {m1 m2 : Nat} {c1 c2 : List AI} {l1 l2 : Lc} {s1 s2 : Sk} {h1 h2 : Hp} (hk : yok i x = true) (hp : yprim i x st h = none) (hb : yrm i x = false ∧ yalt i x st h = false) (e : ∀ rec, zstp scr zprog zmxl zfks rec m r i x ls st h = if c = true then rec m1 c1 l1 s1 h1 else rec m2 c2 l2 s2 h2) : Py scr m ((pc, i, x) :: r) ls st h P = if c = true then Py scr m1 c1 l1 s1 h1 P else Py scr m2 c2 l2 s2 h2 P := by
  cases c with
  | true => rw [if_pos rfl]; exact py_step hk hp hb (fun rec => (e rec).trans (if_pos rfl))
  | false => rw [if_neg (by decide)]; exact py_step hk hp hb (fun rec => (e rec).trans (if_neg (by decide)))
theorem py_if_eq {a o : Int} {L : Nat} : Py scr m ((pc, .ifCond .eq o, [L]) :: r) ls (.inl a :: st) h P = if nrm a = 0 then Py scr m (zprog m L) ls st h P else Py scr m r ls st h P := by
  rw [py_br (c := zjmp .eq (nrm a) 0) rfl rfl ⟨rfl, rfl⟩ (fun _ => rfl)]
  simp only [zjmp, decide_eq_true_eq, ne_eq, List.getD_cons_zero]
theorem py_ic_eq {a b o : Int} {L : Nat} : Py scr m ((pc, .if_icmp .eq o, [L]) :: r) ls (.inl b :: .inl a :: st) h P = if nrm a = nrm b then Py scr m (zprog m L) ls st h P else Py scr m r ls st h P := by
  rw [py_br (c := zjmp .eq (nrm a) (nrm b)) rfl rfl ⟨rfl, rfl⟩ (fun _ => rfl)]
  simp only [zjmp, decide_eq_true_eq, ne_eq, List.getD_cons_zero]
theorem py_if_ne {a o : Int} {L : Nat} : Py scr m ((pc, .ifCond .ne o, [L]) :: r) ls (.inl a :: st) h P = if ¬ nrm a = 0 then Py scr m (zprog m L) ls st h P else Py scr m r ls st h P := by
  rw [py_br (c := zjmp .ne (nrm a) 0) rfl rfl ⟨rfl, rfl⟩ (fun _ => rfl)]
  simp only [zjmp, decide_eq_true_eq, ne_eq, List.getD_cons_zero]
theorem py_ic_ne {a b o : Int} {L : Nat} : Py scr m ((pc, .if_icmp .ne o, [L]) :: r) ls (.inl b :: .inl a :: st) h P = if ¬ nrm a = nrm b then Py scr m (zprog m L) ls st h P else Py scr m r ls st h P := by
  rw [py_br (c := zjmp .ne (nrm a) (nrm b)) rfl rfl ⟨rfl, rfl⟩ (fun _ => rfl)]
  simp only [zjmp, decide_eq_true_eq, ne_eq, List.getD_cons_zero]
theorem py_if_lt {a o : Int} {L : Nat} : Py scr m ((pc, .ifCond .lt o, [L]) :: r) ls (.inl a :: st) h P = if nrm a < 0 then Py scr m (zprog m L) ls st h P else Py scr m r ls st h P := by
  rw [py_br (c := zjmp .lt (nrm a) 0) rfl rfl ⟨rfl, rfl⟩ (fun _ => rfl)]
  simp only [zjmp, decide_eq_true_eq, ne_eq, List.getD_cons_zero]
theorem py_ic_lt {a b o : Int} {L : Nat} : Py scr m ((pc, .if_icmp .lt o, [L]) :: r) ls (.inl b :: .inl a :: st) h P = if nrm a < nrm b then Py scr m (zprog m L) ls st h P else Py scr m r ls st h P := by
  rw [py_br (c := zjmp .lt (nrm a) (nrm b)) rfl rfl ⟨rfl, rfl⟩ (fun _ => rfl)]
  simp only [zjmp, decide_eq_true_eq, ne_eq, List.getD_cons_zero]
theorem py_if_ge {a o : Int} {L : Nat} : Py scr m ((pc, .ifCond .ge o, [L]) :: r) ls (.inl a :: st) h P = if 0 ≤ nrm a then Py scr m (zprog m L) ls st h P else Py scr m r ls st h P := by
  rw [py_br (c := zjmp .ge (nrm a) 0) rfl rfl ⟨rfl, rfl⟩ (fun _ => rfl)]
  simp only [zjmp, decide_eq_true_eq, ne_eq, List.getD_cons_zero]
theorem py_ic_ge {a b o : Int} {L : Nat} : Py scr m ((pc, .if_icmp .ge o, [L]) :: r) ls (.inl b :: .inl a :: st) h P = if nrm b ≤ nrm a then Py scr m (zprog m L) ls st h P else Py scr m r ls st h P := by
  rw [py_br (c := zjmp .ge (nrm a) (nrm b)) rfl rfl ⟨rfl, rfl⟩ (fun _ => rfl)]
  simp only [zjmp, decide_eq_true_eq, ne_eq, List.getD_cons_zero]
theorem py_if_gt {a o : Int} {L : Nat} : Py scr m ((pc, .ifCond .gt o, [L]) :: r) ls (.inl a :: st) h P = if 0 < nrm a then Py scr m (zprog m L) ls st h P else Py scr m r ls st h P := by
  rw [py_br (c := zjmp .gt (nrm a) 0) rfl rfl ⟨rfl, rfl⟩ (fun _ => rfl)]
  simp only [zjmp, decide_eq_true_eq, ne_eq, List.getD_cons_zero]
theorem py_ic_gt {a b o : Int} {L : Nat} : Py scr m ((pc, .if_icmp .gt o, [L]) :: r) ls (.inl b :: .inl a :: st) h P = if nrm b < nrm a then Py scr m (zprog m L) ls st h P else Py scr m r ls st h P := by
  rw [py_br (c := zjmp .gt (nrm a) (nrm b)) rfl rfl ⟨rfl, rfl⟩ (fun _ => rfl)]
  simp only [zjmp, decide_eq_true_eq, ne_eq, List.getD_cons_zero]
theorem py_if_le {a o : Int} {L : Nat} : Py scr m ((pc, .ifCond .le o, [L]) :: r) ls (.inl a :: st) h P = if nrm a ≤ 0 then Py scr m (zprog m L) ls st h P else Py scr m r ls st h P := by
  rw [py_br (c := zjmp .le (nrm a) 0) rfl rfl ⟨rfl, rfl⟩ (fun _ => rfl)]
  simp only [zjmp, decide_eq_true_eq, ne_eq, List.getD_cons_zero]
theorem py_ic_le {a b o : Int} {L : Nat} : Py scr m ((pc, .if_icmp .le o, [L]) :: r) ls (.inl b :: .inl a :: st) h P = if nrm a ≤ nrm b then Py scr m (zprog m L) ls st h P else Py scr m r ls st h P := by
  rw [py_br (c := zjmp .le (nrm a) (nrm b)) rfl rfl ⟨rfl, rfl⟩ (fun _ => rfl)]
  simp only [zjmp, decide_eq_true_eq, ne_eq, List.getD_cons_zero]
theorem py_acmp11 {o : Int} {L : Nat} : Py scr m ((pc, .if_acmp .eq o, [L]) :: r) ls (.inr (.inr (.inr (.inr (.inr 1)))) :: .inr (.inr (.inr (.inr (.inr 1)))) :: st) h P = Py scr m (zprog m L) ls st h P := py_step rfl rfl ⟨rfl, rfl⟩ (fun _ => rfl)
theorem py_acmp1R {o : Int} {L : Nat} {a : Option Nat} : Py scr m ((pc, .if_acmp .eq o, [L]) :: r) ls (.inr (.inr (.inr (.inr (.inr 1)))) :: .inr (.inr (.inl a)) :: st) h P = Py scr m r ls st h P := py_step rfl rfl ⟨rfl, rfl⟩ (fun _ => rfl)
theorem yrw_ci {c : Option AC} {q : Nat × List Int} (hq : yrw c = some q) : ∃ k fs, c = some (.inl (k, fs)) ∧ 100 ≤ k := by
  unfold yrw at hq
  split at hq
  · rename_i k fs
    split at hq
    · rename_i hk
      exact ⟨k, fs, rfl, hk.1⟩
    · cases hq
  · cases hq
theorem rdF_raw {a ci k : Nat} (hn : yrw (gt h a) = none) : rdF h a ci k = yF (gt h a) ci k := by
  unfold yF
  rw [hn]
  unfold rdF gt
  cases hg : h.1[a]? with
  | none => rfl
  | some c => rcases c with ⟨_, _⟩ | ⟨_, _⟩ | _ | _ | ⟨_, _⟩ <;> first | rfl | (dsimp only; split <;> rfl)
theorem rdF_row {a ci k : Nat} {q : Nat × List Int} (hc : ci < 99) (hq : yrw (gt h a) = some q) : rdF h a ci k = none := by
  obtain ⟨k', fs, h1, h2⟩ := yrw_ci hq
  unfold rdF
  rw [show h.1[a]? = some (.inl (k', fs)) from h1]
  dsimp only
  rw [if_neg (by omega)]
theorem wrF_row {a ci k : Nat} {v : AV} {q : Nat × List Int} (hc : ci < 99) (hq : yrw (gt h a) = some q) : wrF h a ci k v = none := by
  obtain ⟨k', fs, h1, h2⟩ := yrw_ci hq
  unfold wrF
  rw [show h.1[a]? = some (.inl (k', fs)) from h1]
  dsimp only
  rw [if_neg (by omega)]
theorem wrF_raw {a ci k : Nat} {v : AV} (hn : yrw (gt h a) = none) : wrF h a ci k v = (yG (gt h a) ci k v).map (fun c => ut h a c) := by
  unfold yG
  rw [hn]
  unfold wrF gt
  cases hg : h.1[a]? with
  | none => rfl
  | some c => rcases c with ⟨_, _⟩ | ⟨_, _⟩ | _ | _ | ⟨_, _⟩ <;> first | rfl | (dsimp only; split <;> rfl)
/-- a field of int written, a row's length among them -/
def yP (c : Option AC) (ci k : Nat) (v : Int) : Option AC := match yrw c with
  | some r => if ci = 4 ∧ k = 1 ∧ 0 ≤ v ∧ v ≤ (r.2.length : Int) then some (rW r.1 (r.2.take v.toNat)) else none
  | none => yG c ci k (vI v)
theorem py_ov {α : Type} {i : Instr} {x : List Nat} {o : Option α} {f : α → AV} {st' : Sk} (hk : yok i x = true) (hp : yprim i x st h = none) (hb : yrm i x = false ∧ yalt i x st h = false) (e : ∀ rec, zstp scr zprog zmxl zfks rec m r i x ls st h = o.bind (fun v => rec m r ls (f v :: st') h)) : Py scr m ((pc, i, x) :: r) ls st h P = yv scr m r ls st' h P (o.map f) := by
  cases o with
  | none => exact py_stuck hk hp hb (fun rec => by rw [e]; rfl)
  | some v => exact py_step hk hp hb (fun rec => by rw [e]; rfl)
theorem py_ow {i : Instr} {x : List Nat} {o : Option AC} {w : Option Hp} {a : Nat} {st' : Sk} (hk : yok i x = true) (hp : yprim i x st h = none) (hb : yrm i x = false ∧ yalt i x st h = false) (hw : w = o.map (fun c => ut h a c)) (e : ∀ rec, zstp scr zprog zmxl zfks rec m r i x ls st h = w.bind (fun h' => rec m r ls st' h')) : Py scr m ((pc, i, x) :: r) ls st h P = yw scr m r ls st' h P a o := by
  cases o with
  | none => exact py_stuck hk hp hb (fun rec => by rw [e, hw]; rfl)
  | some v => exact py_step hk hp hb (fun rec => by rw [e, hw]; rfl)
theorem omap_id {α : Type} (o : Option α) : o.map (fun v => v) = o := by cases o <;> rfl
theorem yGF_n {x : List Nat} {a : Nat} (hq : yrw (gt h a) = none ∨ ¬ x = [4, 1]) : yGF x (.inr (.inr (.inl (some a))) :: st) h = none := by
  unfold yGF
  split
  · rename_i h1 h2
    cases h2
    rcases hq with hq | hq
    · show (yrw (gt h a)).map _ = none
      rw [hq]; rfl
    · exact absurd rfl hq
  · rfl
theorem yPF_n {x : List Nat} {a : Nat} {v : AV} (hq : yrw (gt h a) = none ∨ ¬ x = [4, 1, 0]) : yPF x (v :: .inr (.inr (.inl (some a))) :: st) h = none := by
  unfold yPF
  split
  · rename_i h1 h2
    cases h2
    rcases hq with hq | hq
    · show (yrw (gt h a)).bind _ = none
      rw [hq]; rfl
    · exact absurd rfl hq
  · rfl
theorem py_getfield {a ci k i0 : Nat} (hc : ci < 99) : Py scr m ((pc, .getfield i0, [ci, k]) :: r) ls (.inr (.inr (.inl (some a))) :: st) h P = yv scr m r ls st h P (yF (gt h a) ci k) := by
  have hok : yok (.getfield i0) [ci, k] = true := decide_eq_true hc
  cases hq : yrw (gt h a) with
  | none =>
    rw [← rdF_raw hq, py_ov (o := rdF h a ci k) (f := fun v => v) hok (yGF_n (Or.inl hq)) ⟨rfl, rfl⟩ (fun _ => rfl), omap_id]
  | some q =>
    by_cases h41 : ci = 4 ∧ k = 1
    · obtain ⟨rfl, rfl⟩ := h41
      have hp : yprim (.getfield i0) [4, 1] (.inr (.inr (.inl (some a))) :: st) h = some (vI q.2.length :: st, h) := by
        show (yrw (gt h a)).map _ = _
        rw [hq]; rfl
      rw [py_prim hok hp]
      unfold yF
      rw [hq]
      rfl
    · have hn : ¬ [ci, k] = [4, 1] := fun h9 => by cases h9; exact h41 ⟨rfl, rfl⟩
      rw [py_ov (o := rdF h a ci k) (f := fun v => v) hok (yGF_n (Or.inr hn)) ⟨rfl, rfl⟩ (fun _ => rfl), rdF_row hc hq]
      unfold yF
      rw [hq]
      simp only [if_neg h41]
      rfl
theorem py_putI {a ci k i0 : Nat} {v : Int} (hc : ci < 99) : Py scr m ((pc, .putfield i0, [ci, k, 0]) :: r) ls (.inl v :: .inr (.inr (.inl (some a))) :: st) h P = yw scr m r ls st h P a (yP (gt h a) ci k v) := by
  have hok : yok (.putfield i0) [ci, k, 0] = true := decide_eq_true hc
  cases hq : yrw (gt h a) with
  | none =>
    have e0 : yP (gt h a) ci k v = yG (gt h a) ci k (vI v) := by unfold yP; rw [hq]
    rw [e0]
    exact py_ow (w := wrF h a ci k (vI v)) hok (yPF_n (Or.inl hq)) ⟨rfl, rfl⟩ (wrF_raw hq) (fun _ => by dsimp only [zstp]; first | exact if_pos (Or.inl rfl) | rfl | simp)
  | some q =>
    by_cases h41 : ci = 4 ∧ k = 1 ∧ 0 ≤ v ∧ v ≤ (q.2.length : Int)
    · have e0 : yP (gt h a) ci k v = some (rW q.1 (q.2.take v.toNat)) := by unfold yP; rw [hq]; exact if_pos h41
      rw [e0]
      obtain ⟨rfl, rfl, h42⟩ := h41
      have hp : yprim (.putfield i0) [4, 1, 0] (.inl v :: .inr (.inr (.inl (some a))) :: st) h = some (st, ut h a (rW q.1 (q.2.take v.toNat))) := by
        show (yrw (gt h a)).bind _ = _
        rw [hq]
        exact if_pos h42
      rw [py_prim hok hp]
      rfl
    · have e0 : yP (gt h a) ci k v = none := by unfold yP; rw [hq]; exact if_neg h41
      rw [e0]
      have hp : yprim (.putfield i0) [ci, k, 0] (.inl v :: .inr (.inr (.inl (some a))) :: st) h = none := by
        show yPF [ci, k, 0] (.inl v :: .inr (.inr (.inl (some a))) :: st) h = none
        unfold yPF
        split
        · rename_i h1 h2
          cases h1; cases h2
          show (yrw (gt h a)).bind _ = none
          rw [hq]
          exact if_neg (fun h9 => h41 ⟨rfl, rfl, h9⟩)
        · rfl
      exact py_ow (w := wrF h a ci k (vI v)) hok hp ⟨rfl, rfl⟩ (wrF_row hc hq) (fun _ => by dsimp only [zstp]; first | exact if_pos (Or.inl rfl) | rfl | simp)
theorem py_putC {a ci k i0 : Nat} {v : Int} (hc : ci < 99) (h0 : 0 ≤ v) (h1 : v < 65536) : Py scr m ((pc, .putfield i0, [ci, k, 1]) :: r) ls (.inl v :: .inr (.inr (.inl (some a))) :: st) h P = yw scr m r ls st h P a (yG (gt h a) ci k (vI v)) := by
  have hok : yok (.putfield i0) [ci, k, 1] = true := decide_eq_true hc
  have hn : ¬ [ci, k, 1] = [4, 1, 0] := fun h9 => by cases h9
  cases hq : yrw (gt h a) with
  | none => exact py_ow (w := wrF h a ci k (vI v)) hok (yPF_n (Or.inr hn)) ⟨rfl, rfl⟩ (wrF_raw hq) (fun _ => if_pos (Or.inr ⟨rfl, h0, h1⟩))
  | some q =>
    have e0 : yG (gt h a) ci k (vI v) = none := by unfold yG; rw [hq]
    rw [e0]
    exact py_ow (w := wrF h a ci k (vI v)) hok (yPF_n (Or.inr hn)) ⟨rfl, rfl⟩ (wrF_row hc hq) (fun _ => if_pos (Or.inr ⟨rfl, h0, h1⟩))
theorem py_putR {a ci k i0 : Nat} {v : Option Nat} (hc : ci < 99) : Py scr m ((pc, .putfield i0, [ci, k, 2]) :: r) ls (.inr (.inr (.inl v)) :: .inr (.inr (.inl (some a))) :: st) h P = yw scr m r ls st h P a (yG (gt h a) ci k (vR v)) := by
  have hok : yok (.putfield i0) [ci, k, 2] = true := decide_eq_true hc
  have hn : ¬ [ci, k, 2] = [4, 1, 0] := fun h9 => by cases h9
  cases hq : yrw (gt h a) with
  | none => exact py_ow (w := wrF h a ci k (vR v)) hok (yPF_n (Or.inr hn)) ⟨rfl, rfl⟩ (wrF_raw hq) (fun _ => by dsimp only [zstp]; first | exact if_pos rfl | rfl | simp)
  | some q =>
    have e0 : yG (gt h a) ci k (vR v) = none := by unfold yG; rw [hq]
    rw [e0]
    exact py_ow (w := wrF h a ci k (vR v)) hok (yPF_n (Or.inr hn)) ⟨rfl, rfl⟩ (wrF_row hc hq) (fun _ => by dsimp only [zstp]; first | exact if_pos rfl | rfl | simp)
theorem py_putM {a ci k i0 : Nat} (hc : ci < 99) : Py scr m ((pc, .putfield i0, [ci, k, 2]) :: r) ls (.inr (.inr (.inr (.inr (.inr 1)))) :: .inr (.inr (.inl (some a))) :: st) h P = yw scr m r ls st h P a (yG (gt h a) ci k (vM 1)) := by
  have hok : yok (.putfield i0) [ci, k, 2] = true := decide_eq_true hc
  have hn : ¬ [ci, k, 2] = [4, 1, 0] := fun h9 => by cases h9
  cases hq : yrw (gt h a) with
  | none => exact py_ow (w := wrF h a ci k (vM 1)) hok (yPF_n (Or.inr hn)) ⟨rfl, rfl⟩ (wrF_raw hq) (fun _ => by dsimp only [zstp]; first | exact if_pos rfl | rfl | simp)
  | some q =>
    have e0 : yG (gt h a) ci k (vM 1) = none := by unfold yG; rw [hq]
    rw [e0]
    exact py_ow (w := wrF h a ci k (vM 1)) hok (yPF_n (Or.inr hn)) ⟨rfl, rfl⟩ (wrF_row hc hq) (fun _ => by dsimp only [zstp]; first | exact if_pos rfl | rfl | simp)
theorem rdI_y {a t : Nat} {i : Int} : rdI h a t i = yI (gt h a) t i := by
  unfold rdI yI gt
  cases hg : h.1[a]? with
  | none => rfl
  | some c => rcases c with ⟨_, _⟩ | ⟨_, _⟩ | _ | _ | ⟨_, _⟩ <;> first | rfl | (dsimp only; split <;> rfl)
theorem wrI_y {a t : Nat} {i v : Int} : wrI h a t i v = (yJ (gt h a) t i v).map (fun c => ut h a c) := by
  unfold wrI yJ gt
  cases hg : h.1[a]? with
  | none => rfl
  | some c => rcases c with ⟨_, _⟩ | ⟨_, _⟩ | _ | _ | ⟨_, _⟩ <;> first | rfl | (dsimp only; split <;> rfl)
theorem rdL_y {a : Nat} {i : Int} : rdL h a i = yL (gt h a) i := by
  unfold rdL yL gt
  cases hg : h.1[a]? with
  | none => rfl
  | some c => rcases c with ⟨_, _⟩ | ⟨_, _⟩ | _ | _ | ⟨_, _⟩ <;> first | rfl | (dsimp only; split <;> rfl)
theorem wrL_y {a : Nat} {i v : Int} : wrL h a i v = (yM (gt h a) i v).map (fun c => ut h a c) := by
  unfold wrL yM gt
  cases hg : h.1[a]? with
  | none => rfl
  | some c => rcases c with ⟨_, _⟩ | ⟨_, _⟩ | _ | _ | ⟨_, _⟩ <;> first | rfl | (dsimp only; split <;> rfl)
theorem rdD_y {a : Nat} {i : Int} : rdD h a i = yD (gt h a) i := by
  unfold rdD yD gt
  cases hg : h.1[a]? with
  | none => rfl
  | some c => rcases c with ⟨_, _⟩ | ⟨_, _⟩ | _ | _ | ⟨_, _⟩ <;> first | rfl | (dsimp only; split <;> rfl)
theorem wrD_y {a : Nat} {i : Int} {v : UInt64} : wrD h a i v = (yE (gt h a) i v).map (fun c => ut h a c) := by
  unfold wrD yE gt
  cases hg : h.1[a]? with
  | none => rfl
  | some c => rcases c with ⟨_, _⟩ | ⟨_, _⟩ | _ | _ | ⟨_, _⟩ <;> first | rfl | (dsimp only; split <;> rfl)
theorem rdQ_y {a : Nat} {i : Int} : rdQ h a i = yQ (gt h a) i := by
  unfold rdQ yQ gt
  cases hg : h.1[a]? with
  | none => rfl
  | some c => rcases c with ⟨_, _⟩ | ⟨_, _⟩ | _ | _ | ⟨_, _⟩ <;> first | rfl | (dsimp only; split <;> rfl)
theorem zlen_y {a : Nat} : zlen h a = yN (gt h a) := by
  unfold zlen yN gt
  cases hg : h.1[a]? with
  | none => rfl
  | some c => rcases c with ⟨_, _⟩ | ⟨_, _⟩ | _ | _ | ⟨_, _⟩ <;> first | rfl | (dsimp only; split <;> rfl)
theorem wrQ_y {a : Nat} {i : Int} {x : Option Nat} {d : Option AC} (hd : ∀ k, x = some k → d = gt h k) : wrQ h a i x = (yU (gt h a) d i x).map (fun c => ut h a c) := by
  have e : ∀ t, (∀ k, x = some k → zfit t h.1[k]? = true) ↔ (x = none ∨ zfit t d = true) := by
    intro t
    cases x with
    | none => exact ⟨fun _ => Or.inl rfl, fun _ k hk => by cases hk⟩
    | some k =>
      rw [hd k rfl]
      exact ⟨fun h1 => Or.inr (h1 k rfl), fun h1 k' hk => by cases hk; rcases h1 with h1 | h1; cases h1; exact h1⟩
  unfold wrQ yU gt
  cases hg : h.1[a]? with
  | none => rfl
  | some c => rcases c with ⟨_, _⟩ | ⟨_, _⟩ | _ | _ | ⟨t, xs⟩
              · rfl
              · rfl
              · rfl
              · rfl
              · dsimp only
                simp only [e t]
                split <;> rfl
theorem py_iaload {a : Nat} {i : Int} {x : List Nat} : Py scr m ((pc, .iaload, x) :: r) ls (.inl i :: .inr (.inr (.inl (some a))) :: st) h P = yv scr m r ls st h P ((yI (gt h a) 0 i).map (fun v => .inl v)) := py_ov rfl rfl ⟨rfl, rfl⟩ (fun _ => by rw [← rdI_y]; rfl)
theorem py_ialoadM {i : Int} {x : List Nat} (h0 : 0 ≤ i) (h1 : i < 2147483648) : Py scr m ((pc, .iaload, x) :: r) ls (.inl i :: .inr (.inr (.inr (.inr (.inr 0)))) :: st) h P = yv scr m r ls st h P ((scr[i.toNat]?).map (fun v => .inl v)) := py_ov rfl rfl ⟨rfl, rfl⟩ (fun _ => if_pos ⟨h0, h1⟩)
theorem py_caload {a : Nat} {i : Int} {x : List Nat} : Py scr m ((pc, .caload, x) :: r) ls (.inl i :: .inr (.inr (.inl (some a))) :: st) h P = yv scr m r ls st h P ((yI (gt h a) 1 i).map (fun v => .inl v)) := py_ov rfl rfl ⟨rfl, rfl⟩ (fun _ => by rw [← rdI_y]; rfl)
theorem py_baload {a : Nat} {i : Int} {x : List Nat} : Py scr m ((pc, .baload, x) :: r) ls (.inl i :: .inr (.inr (.inl (some a))) :: st) h P = yv scr m r ls st h P ((yI (gt h a) 2 i).map (fun v => .inl v)) := py_ov rfl rfl ⟨rfl, rfl⟩ (fun _ => by rw [← rdI_y]; rfl)
theorem py_laload {a : Nat} {i : Int} {x : List Nat} : Py scr m ((pc, .laload, x) :: r) ls (.inl i :: .inr (.inr (.inl (some a))) :: st) h P = yv scr m r ls st h P ((yL (gt h a) i).map (fun v => .inr (.inl v))) := py_ov rfl rfl ⟨rfl, rfl⟩ (fun _ => by rw [← rdL_y]; rfl)
theorem py_daload {a : Nat} {i : Int} {x : List Nat} : Py scr m ((pc, .daload, x) :: r) ls (.inl i :: .inr (.inr (.inl (some a))) :: st) h P = yv scr m r ls st h P ((yD (gt h a) i).map (fun v => .inr (.inr (.inr (.inr (.inl v)))))) := py_ov rfl rfl ⟨rfl, rfl⟩ (fun _ => by rw [← rdD_y]; rfl)
theorem py_aaload {a : Nat} {i : Int} {x : List Nat} : Py scr m ((pc, .aaload, x) :: r) ls (.inl i :: .inr (.inr (.inl (some a))) :: st) h P = yv scr m r ls st h P ((yQ (gt h a) i).map (fun v => .inr (.inr (.inl v)))) := py_ov rfl rfl ⟨rfl, rfl⟩ (fun _ => by rw [← rdQ_y]; rfl)
theorem py_iastore {a : Nat} {i v : Int} {x : List Nat} : Py scr m ((pc, .iastore, x) :: r) ls (.inl v :: .inl i :: .inr (.inr (.inl (some a))) :: st) h P = yw scr m r ls st h P a (yJ (gt h a) 0 i v) := py_ow (w := wrI h a 0 i v) rfl rfl ⟨rfl, rfl⟩ wrI_y (fun _ => rfl)
theorem py_castore {a : Nat} {i v : Int} {x : List Nat} : Py scr m ((pc, .castore, x) :: r) ls (.inl v :: .inl i :: .inr (.inr (.inl (some a))) :: st) h P = yw scr m r ls st h P a (yJ (gt h a) 1 i (v % 65536)) := py_ow (w := wrI h a 1 i (v % 65536)) rfl rfl ⟨rfl, rfl⟩ wrI_y (fun _ => rfl)
theorem py_bastore {a : Nat} {i v : Int} {x : List Nat} (hv : v = 0 ∨ v = 1) : Py scr m ((pc, .bastore, x) :: r) ls (.inl v :: .inl i :: .inr (.inr (.inl (some a))) :: st) h P = yw scr m r ls st h P a (yJ (gt h a) 2 i v) := py_ow (w := wrI h a 2 i v) rfl rfl ⟨rfl, rfl⟩ wrI_y (fun _ => if_pos hv)
theorem py_lastore {a : Nat} {i v : Int} {x : List Nat} : Py scr m ((pc, .lastore, x) :: r) ls (.inr (.inl v) :: .inl i :: .inr (.inr (.inl (some a))) :: st) h P = yw scr m r ls st h P a (yM (gt h a) i v) := py_ow (w := wrL h a i v) rfl rfl ⟨rfl, rfl⟩ wrL_y (fun _ => rfl)
theorem py_dastore {a : Nat} {i : Int} {v : UInt64} {x : List Nat} : Py scr m ((pc, .dastore, x) :: r) ls (.inr (.inr (.inr (.inr (.inl v)))) :: .inl i :: .inr (.inr (.inl (some a))) :: st) h P = yw scr m r ls st h P a (yE (gt h a) i v) := py_ow (w := wrD h a i v) rfl rfl ⟨rfl, rfl⟩ wrD_y (fun _ => rfl)
theorem py_aastoreN {a : Nat} {i : Int} {x : List Nat} : Py scr m ((pc, .aastore, x) :: r) ls (.inr (.inr (.inl none)) :: .inl i :: .inr (.inr (.inl (some a))) :: st) h P = yw scr m r ls st h P a (yU (gt h a) none i none) := py_ow (w := wrQ h a i none) rfl rfl ⟨rfl, rfl⟩ (wrQ_y (fun k hk => by cases hk)) (fun _ => rfl)
theorem py_aastoreS {a k : Nat} {i : Int} {x : List Nat} : Py scr m ((pc, .aastore, x) :: r) ls (.inr (.inr (.inl (some k))) :: .inl i :: .inr (.inr (.inl (some a))) :: st) h P = yw scr m r ls st h P a (yU (gt h a) (gt h k) i (some k)) := py_ow (w := wrQ h a i (some k)) rfl rfl ⟨rfl, rfl⟩ (wrQ_y (fun k hk => by cases hk; rfl)) (fun _ => rfl)
theorem py_alen {a : Nat} {x : List Nat} : Py scr m ((pc, .arraylength, x) :: r) ls (.inr (.inr (.inl (some a))) :: st) h P = yv scr m r ls st h P ((yN (gt h a)).map (fun v => .inl v)) := py_ov rfl rfl ⟨rfl, rfl⟩ (fun _ => by rw [← zlen_y]; rfl)
theorem py_alen0 {x : List Nat} : Py scr m ((pc, .arraylength, x) :: r) ls (.inr (.inr (.inr (.inr (.inr 0)))) :: st) h P = Py scr m r ls (.inl (scr.length : Int) :: st) h P := py_step rfl rfl ⟨rfl, rfl⟩ (fun _ => rfl)
theorem py_alen1 {x : List Nat} : Py scr m ((pc, .arraylength, x) :: r) ls (.inr (.inr (.inr (.inr (.inr 1)))) :: st) h P = Py scr m r ls (.inl 0 :: st) h P := py_step rfl rfl ⟨rfl, rfl⟩ (fun _ => rfl)
theorem py_getstatic {i : Nat} {x : List Nat} : Py scr m ((pc, .getstatic i, x) :: r) ls st h P = Py scr m r ls (.inr (.inr (.inr (.inr (.inr 1)))) :: st) h P := py_step rfl rfl ⟨rfl, rfl⟩ (fun _ => rfl)
theorem py_newarray {ty : ArrayType} {t : Nat} {n : Int} (h0 : 0 ≤ n) (h1 : n < 1000000) : Py scr m ((pc, .newarray ty, [t]) :: r) ls (.inl n :: st) h P = Py scr m r ls (.inr (.inr (.inl (some (ln h)))) :: st) (ap h (zarr t n.toNat)) P := py_step rfl rfl ⟨rfl, rfl⟩ (fun _ => if_pos ⟨h0, h1⟩)
theorem py_anewarray {i t : Nat} {n : Int} (h0 : 0 ≤ n) (h1 : n < 1000000) : Py scr m ((pc, .anewarray i, [t]) :: r) ls (.inl n :: st) h P = Py scr m r ls (.inr (.inr (.inl (some (ln h)))) :: st) (ap h (cQ t (List.replicate n.toNat none))) P := py_step rfl rfl ⟨rfl, rfl⟩ (fun _ => if_pos ⟨h0, h1⟩)
theorem py_new0 {i : Nat} : Py scr m ((pc, .new i, [0, 0]) :: r) ls st h P = Py scr m r ls (.inr (.inr (.inl (some (ln h)))) :: st) (ap h (.inl (0, [.inl 0, .inr (.inr (.inl none)), .inr (.inr (.inl none))]))) P := py_step rfl rfl ⟨rfl, rfl⟩ (fun _ => rfl)
theorem py_new1 {i : Nat} : Py scr m ((pc, .new i, [1, 0]) :: r) ls st h P = Py scr m r ls (.inr (.inr (.inl (some (ln h)))) :: st) (ap h (.inl (1, [.inr (.inr (.inl none)), .inr (.inr (.inl none)), .inr (.inr (.inl none)), .inr (.inr (.inl none))]))) P := py_step rfl rfl ⟨rfl, rfl⟩ (fun _ => rfl)
theorem py_new2 {i : Nat} : Py scr m ((pc, .new i, [2, 0]) :: r) ls st h P = Py scr m r ls (.inr (.inr (.inl (some (ln h)))) :: st) (ap h (.inl (2, [.inr (.inr (.inl none)), .inr (.inr (.inl none)), .inr (.inr (.inl none)), .inr (.inr (.inl none)), .inr (.inr (.inl none)), .inl 0, .inl 0]))) P := py_step rfl rfl ⟨rfl, rfl⟩ (fun _ => rfl)
theorem py_new3 {i : Nat} : Py scr m ((pc, .new i, [3, 0]) :: r) ls st h P = Py scr m r ls (.inr (.inr (.inl (some (ln h)))) :: st) (ap h (.inl (3, [.inr (.inr (.inl none)), .inr (.inr (.inl none)), .inr (.inr (.inl none))]))) P := py_step rfl rfl ⟨rfl, rfl⟩ (fun _ => rfl)
theorem py_new4 {i : Nat} : Py scr m ((pc, .new i, [4, 0]) :: r) ls st h P = Py scr m r ls (.inr (.inr (.inl (some (ln h)))) :: st) (ap h (.inl (4, [.inr (.inr (.inl none)), .inl 0]))) P := py_step rfl rfl ⟨rfl, rfl⟩ (fun _ => rfl)
theorem py_new5 {i : Nat} : Py scr m ((pc, .new i, [5, 0]) :: r) ls st h P = Py scr m r ls (.inr (.inr (.inl (some (ln h)))) :: st) (ap h (.inl (5, [.inr (.inr (.inl none)), .inr (.inr (.inl none)), .inr (.inr (.inl none)), .inr (.inr (.inl none)), .inl 0, .inr (.inr (.inl none)), .inr (.inr (.inl none)), .inr (.inr (.inl none)), .inr (.inr (.inl none)), .inr (.inr (.inl none)), .inr (.inr (.inl none)), .inr (.inr (.inl none)), .inr (.inr (.inl none)), .inr (.inr (.inl none)), .inr (.inr (.inl none)), .inr (.inr (.inl none)), .inr (.inr (.inl none))]))) P := py_step rfl rfl ⟨rfl, rfl⟩ (fun _ => rfl)
theorem py_new6 {i : Nat} : Py scr m ((pc, .new i, [6, 0]) :: r) ls st h P = Py scr m r ls (.inr (.inr (.inl (some (ln h)))) :: st) (ap h (.inl (6, [.inr (.inr (.inl none)), .inr (.inr (.inl none)), .inl 0, .inr (.inr (.inl none)), .inr (.inr (.inl none)), .inr (.inr (.inl none)), .inl 0, .inr (.inr (.inl none)), .inl 0, .inl 0, .inl 0, .inr (.inr (.inl none)), .inr (.inr (.inl none)), .inr (.inr (.inl none)), .inr (.inr (.inl none)), .inr (.inr (.inl none)), .inr (.inr (.inl none)), .inr (.inr (.inl none)), .inr (.inr (.inl none)), .inr (.inr (.inl none)), .inr (.inr (.inl none)), .inr (.inr (.inl none)), .inr (.inr (.inl none))]))) P := py_step rfl rfl ⟨rfl, rfl⟩ (fun _ => rfl)
theorem py_new7 {i : Nat} : Py scr m ((pc, .new i, [7, 0]) :: r) ls st h P = Py scr m r ls (.inr (.inr (.inl (some (ln h)))) :: st) (ap h (.inl (7, [.inl 0, .inr (.inr (.inl none)), .inl 0]))) P := py_step rfl rfl ⟨rfl, rfl⟩ (fun _ => rfl)
theorem py_throw {i c : Nat} (hc : c < 99) : Py scr m ((pc, .new i, [c, 1]) :: r) ls [] h P = P (.inr c, xc h) := py_end (decide_eq_true hc) rfl ⟨rfl, rfl⟩ (fun _ => rfl)
/-- an object of this class (no row) -/
def zisc (c : Option AC) (ci : Nat) : Bool := match c with
  | some (.inl (c', _)) => c' == ci
  | _ => false
theorem zis_y {a ci : Nat} : zis h a ci = zisc (gt h a) ci := by
  unfold zis zisc gt
  cases hg : h.1[a]? with
  | none => rfl
  | some c => rcases c with ⟨_, _⟩ | ⟨_, _⟩ | _ | _ | ⟨_, _⟩ <;> rfl
theorem py_checkcast {a c i : Nat} (hc : c < 99) : Py scr m ((pc, .checkcast i, [c]) :: r) ls (.inr (.inr (.inl (some a))) :: st) h P = (zisc (gt h a) c = true ∧ Py scr m r ls (.inr (.inr (.inl (some a))) :: st) h P) := by
  have hok : yok (.checkcast i) [c] = true := decide_eq_true hc
  have e9 : zis h a c = zisc (gt h a) c := zis_y
  by_cases hz : zisc (gt h a) c = true
  · refine (py_step (m' := m) (c' := r) (ls' := ls) (st' := .inr (.inr (.inl (some a))) :: st) (h' := h) hok rfl ⟨rfl, rfl⟩ (fun _ => ?_)).trans (propext ⟨fun h9 => ⟨hz, h9⟩, fun h9 => h9.2⟩)
    dsimp only [zstp]
    exact if_pos (by rw [List.getD_cons_zero, e9]; exact hz)
  · refine (py_stuck hok rfl ⟨rfl, rfl⟩ (fun _ => ?_)).trans (propext ⟨False.elim, fun h9 => hz h9.1⟩)
    dsimp only [zstp]
    exact if_neg (by rw [List.getD_cons_zero, e9]; exact hz)
theorem py_ireturn {a : Int} : Py scr m ((pc, .ireturn, []) :: r) ls [.inl a] h P = P (.inl (some (.inl a)), h) := py_end rfl rfl ⟨rfl, rfl⟩ (fun _ => by dsimp only [zstp]; exact if_pos (Or.inl rfl))
theorem py_ireturn1 {a : Int} (h0 : 0 ≤ a) (h1 : a < 65536) : Py scr m ((pc, .ireturn, [1]) :: r) ls [.inl a] h P = P (.inl (some (.inl a)), h) := py_end rfl rfl ⟨rfl, rfl⟩ (fun _ => by dsimp only [zstp]; exact if_pos (Or.inr (Or.inl ⟨rfl, h0, h1⟩)))
theorem py_ireturn2 {a : Int} (h0 : a = 0 ∨ a = 1) : Py scr m ((pc, .ireturn, [2]) :: r) ls [.inl a] h P = P (.inl (some (.inl a)), h) := py_end rfl rfl ⟨rfl, rfl⟩ (fun _ => by dsimp only [zstp]; exact if_pos (Or.inr (Or.inr ⟨rfl, h0⟩)))
theorem py_lreturn {a : Int} {x : List Nat} : Py scr m ((pc, .lreturn, x) :: r) ls [.inr (.inl a)] h P = P (.inl (some (.inr (.inl a))), h) := py_end rfl rfl ⟨rfl, rfl⟩ (fun _ => rfl)
theorem py_freturn {a : UInt32} {x : List Nat} : Py scr m ((pc, .freturn, x) :: r) ls [.inr (.inr (.inr (.inl a)))] h P = P (.inl (some (.inr (.inr (.inr (.inl a))))), h) := py_end rfl rfl ⟨rfl, rfl⟩ (fun _ => rfl)
theorem py_dreturn {a : UInt64} {x : List Nat} : Py scr m ((pc, .dreturn, x) :: r) ls [.inr (.inr (.inr (.inr (.inl a))))] h P = P (.inl (some (.inr (.inr (.inr (.inr (.inl a)))))), h) := py_end rfl rfl ⟨rfl, rfl⟩ (fun _ => rfl)
theorem py_areturn {a : Nat} {x : List Nat} : Py scr m ((pc, .areturn, x) :: r) ls [.inr (.inr (.inl (some a)))] h P = P (.inl (some (.inr (.inr (.inl (some a))))), h) := py_end rfl rfl ⟨rfl, rfl⟩ (fun _ => rfl)
theorem py_return {x : List Nat} : Py scr m ((pc, .return_, x) :: r) ls [] h P = P (.inl none, h) := py_end rfl rfl ⟨rfl, rfl⟩ (fun _ => rfl)
theorem zaft_n {hs : List Nat} : zaft scr m r ls st hs P (.inl none, h) = Py scr m r ls st h P := rfl
theorem zaft_s {hs : List Nat} {v : AV} : zaft scr m r ls st hs P (.inl (some v), h) = Py scr m r ls (v :: st) h P := rfl
theorem zaft_x {e : Nat} : zaft scr m r ls st [] P (.inr e, h) = P (.inr e, h) := by
  show ([] = [] ∧ P (.inr e, h)) = _
  exact propext ⟨fun h9 => h9.2, fun h9 => ⟨rfl, h9⟩⟩
theorem zaft_x1 {e l : Nat} {t : List Nat} : zaft scr m r ls st (e :: l :: t) P (.inr e, h) = Py scr m (zprog m l) ls [.inr (.inr (.inr (.inr (.inr 2))))] h P := by
  show (match (if e = e then some l else zhan t e) with | some l => Py scr m (zprog m l) ls [vM 2] h P | none => _) = _
  rw [if_pos rfl]
theorem zaft_x2 {c e l c2 l2 : Nat} {t : List Nat} (hc : c ≠ e) : zaft scr m r ls st (c :: l :: c2 :: l2 :: t) P (.inr e, h) = zaft scr m r ls st (c2 :: l2 :: t) P (.inr e, h) := by
  show (match (if c = e then some l else zhan (c2 :: l2 :: t) e) with | some l => Py scr m (zprog m l) ls [vM 2] h P | none => _ ∧ _) = (match zhan (c2 :: l2 :: t) e with | some l => Py scr m (zprog m l) ls [vM 2] h P | none => _ ∧ _)
  rw [if_neg hc]
  cases zhan (c2 :: l2 :: t) e with
  | some l => rfl
  | none => simp
theorem py_prm {i : Instr} {x : List Nat} (hk : yok i x = true) (hp : yprim i x st h = none) (hb : yrm i x = true) : Py scr m ((pc, i, x) :: r) ls st h P = False := by
  apply propext
  constructor
  · rintro ⟨n, res, h1, h2⟩
    cases n with
    | zero => simp [yrun] at h1
    | succ n =>
      simp only [yrun] at h1
      rw [if_pos hk, hp] at h1
      simp only [hb, if_true] at h1
      cases h1
  · exact False.elim
/-- one step of a row's method: what is left on the stack, the cell -/
def yz1 (scr : List Int) (m : Nat) (r : List AI) (ls : Lc) (st : Sk) (h : Hp) (P : Rs → Prop) (a : Nat) (o : Option (Sk × AC)) : Prop := match o with
  | some q => st.length ≤ 4 ∧ Py scr m r ls (q.1 ++ st) (ut h a q.2) P
  | none => False
def yr1 (o : Option (Nat × List Int)) : Option AV := o.map (fun q => .inl (q.2.length : Int))
def yr2 (o : Option (Nat × List Int)) (i : Int) : Option AV := o.bind (fun q => if zrB i = true then some (.inl (yat q.2 i)) else none)
def yr3 (o : Option (Nat × List Int)) (i v : Int) : Option AC := o.bind (fun q => if zrB i = true then some (rW q.1 (yput q.2 i v)) else none)
def yr4 (o : Option (Nat × List Int)) (v : Int) : Option AC := o.map (fun q => rW q.1 (yadd q.1 q.2 v))
def yr8 (o : Option (Nat × List Int)) (i v : Int) : Option AC := o.bind (fun q => if zrB i = true ∧ 0 ≤ i ∧ i ≤ (q.1 : Int) then some (rW q.1 (List.replicate i.toNat v)) else none)
theorem py_pv {i : Instr} {x : List Nat} {st' : Sk} {o : Option AV} (hk : yok i x = true) (hb : yrm i x = true) (hp : yprim i x st h = o.bind (fun v => if st'.length ≤ 4 then some (v :: st', h) else none)) : Py scr m ((pc, i, x) :: r) ls st h P = (st'.length ≤ 4 ∧ yv scr m r ls st' h P o) := by
  by_cases h4 : st'.length ≤ 4
  · cases o with
    | none =>
      rw [py_prm hk hp hb]
      exact propext ⟨False.elim, fun h9 => h9.2⟩
    | some v =>
      rw [py_prim hk (hp.trans (if_pos h4))]
      exact propext ⟨fun h9 => ⟨h4, h9⟩, fun h9 => h9.2⟩
  · rw [py_prm hk (by rw [hp]; cases o with | none => rfl | some v => exact if_neg h4) hb]
    exact propext ⟨False.elim, fun h9 => h4 h9.1⟩
theorem py_pw {i : Instr} {x : List Nat} {st' : Sk} {o : Option AC} {a : Nat} (hk : yok i x = true) (hb : yrm i x = true) (hp : yprim i x st h = o.bind (fun c => if st'.length ≤ 4 then some (st', ut h a c) else none)) : Py scr m ((pc, i, x) :: r) ls st h P = (st'.length ≤ 4 ∧ yw scr m r ls st' h P a o) := by
  by_cases h4 : st'.length ≤ 4
  · cases o with
    | none =>
      rw [py_prm hk hp hb]
      exact propext ⟨False.elim, fun h9 => h9.2⟩
    | some v =>
      rw [py_prim hk (hp.trans (if_pos h4))]
      exact propext ⟨fun h9 => ⟨h4, h9⟩, fun h9 => h9.2⟩
  · rw [py_prm hk (by rw [hp]; cases o with | none => rfl | some v => exact if_neg h4) hb]
    exact propext ⟨False.elim, fun h9 => h4 h9.1⟩
theorem py_rsize {a i0 : Nat} : Py scr m ((pc, .invokevirtual i0, [1, 1, 4]) :: r) ls (.inr (.inr (.inl (some a))) :: st) h P = (st.length ≤ 4 ∧ yv scr m r ls st h P (yr1 (yrw (gt h a)))) := py_pv rfl rfl (by
    show (yrw (gt h a)).bind _ = _
    cases yrw (gt h a) with
    | none => rfl
    | some q => rfl)
theorem py_rat {a i0 : Nat} {i : Int} : Py scr m ((pc, .invokevirtual i0, [2, 2, 4]) :: r) ls (.inl i :: .inr (.inr (.inl (some a))) :: st) h P = (st.length ≤ 4 ∧ yv scr m r ls st h P (yr2 (yrw (gt h a)) i)) := py_pv rfl rfl (by
    show (yrw (gt h a)).bind _ = _
    cases yrw (gt h a) with
    | none => rfl
    | some q => 
      by_cases hz : zrB i = true
      · by_cases h4 : st.length ≤ 4
        · simp [yr2, hz, h4]
        · simp [yr2, hz, h4]
      · simp [yr2, hz])
theorem py_rput {a i0 : Nat} {i v : Int} : Py scr m ((pc, .invokevirtual i0, [3, 3, 4]) :: r) ls (.inl v :: .inl i :: .inr (.inr (.inl (some a))) :: st) h P = (st.length ≤ 4 ∧ yw scr m r ls st h P a (yr3 (yrw (gt h a)) i v)) := py_pw rfl rfl (by
    show (yrw (gt h a)).bind _ = _
    cases yrw (gt h a) with
    | none => rfl
    | some q => 
      by_cases hz : zrB i = true
      · by_cases h4 : st.length ≤ 4
        · simp [yr3, ut, hz, h4]
        · simp [yr3, ut, hz, h4]
      · simp [yr3, ut, hz])
theorem py_radd {a i0 : Nat} {v : Int} : Py scr m ((pc, .invokevirtual i0, [4, 2, 4]) :: r) ls (.inl v :: .inr (.inr (.inl (some a))) :: st) h P = (st.length ≤ 4 ∧ yw scr m r ls st h P a (yr4 (yrw (gt h a)) v)) := py_pw rfl rfl (by
    show (yrw (gt h a)).bind _ = _
    cases yrw (gt h a) with
    | none => rfl
    | some q => rfl)
theorem py_rfill {a i0 : Nat} {i v : Int} : Py scr m ((pc, .invokevirtual i0, [8, 3, 4]) :: r) ls (.inl v :: .inl i :: .inr (.inr (.inl (some a))) :: st) h P = (st.length ≤ 4 ∧ yw scr m r ls st h P a (yr8 (yrw (gt h a)) i v)) := py_pw rfl rfl (by
    show (yrw (gt h a)).bind _ = _
    cases yrw (gt h a) with
    | none => rfl
    | some q => 
      by_cases hz : zrB i = true ∧ 0 ≤ i ∧ i ≤ (q.1 : Int)
      · by_cases h4 : st.length ≤ 4
        · simp [yr8, ut, hz, h4]
        · simp [yr8, ut, hz, h4]
      · have h9 : ¬ (st.length ≤ 4 ∧ zrB i = true ∧ 0 ≤ i ∧ i ≤ (q.1 : Int)) := fun h8 => hz h8.2
        show (if _ then _ else none) = Option.bind (if _ then _ else none) _
        rw [if_neg h9, if_neg hz]; rfl)
theorem py_rinit {a i0 : Nat} {i : Int} (h0 : 0 ≤ i) (h1 : i < 1000000) : Py scr m ((pc, .invokespecial i0, [0, 2]) :: r) ls (.inl i :: .inr (.inr (.inl (some a))) :: st) h P = (st.length ≤ 4 ∧ yfr (gt h a) = true ∧ a + 1 = ln h ∧ Py scr m r ls st (ap (ut h a (rW i.toNat [])) (rHid i.toNat)) P) := by
  by_cases hc : st.length ≤ 4 ∧ yfr (gt h a) = true ∧ a + 1 = ln h
  · have hp : yprim (.invokespecial i0) [0, 2] (.inl i :: .inr (.inr (.inl (some a))) :: st) h = some (st, ap (ut h a (rW i.toNat [])) (rHid i.toNat)) := if_pos ⟨hc.1, h0, h1, hc.2.1, hc.2.2⟩
    rw [py_prim rfl hp]
    exact propext ⟨fun h9 => ⟨hc.1, hc.2.1, hc.2.2, h9⟩, fun h9 => h9.2.2.2⟩
  · have hp : yprim (.invokespecial i0) [0, 2] (.inl i :: .inr (.inr (.inl (some a))) :: st) h = none := if_neg (fun h9 => hc ⟨h9.1, h9.2.2.2.1, h9.2.2.2.2⟩)
    rw [py_prm rfl hp rfl]
    exact propext ⟨False.elim, fun h9 => hc ⟨h9.1, h9.2.1, h9.2.2.1⟩⟩
theorem py_max {a b : Int} {i0 : Nat} : Py scr m ((pc, .invokestatic i0, [0]) :: r) ls (.inl b :: .inl a :: st) h P = (st.length ≤ 8 ∧ Py scr m r ls (.inl (if nrm a < nrm b then b else a) :: st) h P) := by
  by_cases h8 : st.length ≤ 8
  · refine (py_step (m' := m) (c' := r) (ls' := ls) (st' := .inl (if nrm a < nrm b then b else a) :: st) (h' := h) rfl rfl ⟨rfl, rfl⟩ (fun _ => ?_)).trans (propext ⟨fun h9 => ⟨h8, h9⟩, fun h9 => h9.2⟩)
    exact if_neg (Nat.not_lt.mpr h8)
  · refine (py_stuck rfl rfl ⟨rfl, rfl⟩ (fun _ => ?_)).trans (propext ⟨False.elim, fun h9 => h8 h9.1⟩)
    exact if_pos (Nat.lt_of_not_le h8)
theorem py_min {a b : Int} {i0 : Nat} : Py scr m ((pc, .invokestatic i0, [1]) :: r) ls (.inl b :: .inl a :: st) h P = (st.length ≤ 8 ∧ Py scr m r ls (.inl (if nrm b < nrm a then b else a) :: st) h P) := by
  by_cases h8 : st.length ≤ 8
  · refine (py_step (m' := m) (c' := r) (ls' := ls) (st' := .inl (if nrm b < nrm a then b else a) :: st) (h' := h) rfl rfl ⟨rfl, rfl⟩ (fun _ => ?_)).trans (propext ⟨fun h9 => ⟨h8, h9⟩, fun h9 => h9.2⟩)
    exact if_neg (Nat.not_lt.mpr h8)
  · refine (py_stuck rfl rfl ⟨rfl, rfl⟩ (fun _ => ?_)).trans (propext ⟨False.elim, fun h9 => h8 h9.1⟩)
    exact if_pos (Nat.lt_of_not_le h8)
theorem py_oinit {a i0 : Nat} : Py scr m ((pc, .invokespecial i0, []) :: r) ls [.inr (.inr (.inl (some a)))] h P = Py scr m r ls [] h P := py_step rfl rfl ⟨rfl, rfl⟩ (fun _ => rfl)
theorem py_stuck2 {i : Instr} {x : List Nat} (hk : yok i x = true) (hp : yprim i x st h = none) (hb : yrm i x = false) (e : ∀ rec, (if yalt i x st h = true then zinv zprog zmxl rec m r ls st h (x.getD 0 0) (x.getD 1 0) (x.drop 3) else zstp scr zprog zmxl zfks rec m r i x ls st h) = none) : Py scr m ((pc, i, x) :: r) ls st h P = False := by
  apply propext
  constructor
  · rintro ⟨n, res, h1, h2⟩
    cases n with
    | zero => simp [yrun] at h1
    | succ n =>
      simp only [yrun] at h1
      rw [if_pos hk, hp] at h1
      simp only [hb, Bool.false_eq_true, if_false] at h1
      rw [e] at h1
      cases h1
  · exact False.elim
theorem zinv_len {rec : Nat → List AI → Lc → Sk → Hp → Option Rs} {y n : Nat} {hs : List Nat} (hn : ¬ st.length ≤ n + 4) : zinv zprog zmxl rec m r ls st h y n hs = none := if_neg (fun h9 => hn h9.2.1)
theorem yIV_n {x : List Nat} (hb : yrm (.invokevirtual 0) x = false) : yIV x st h = none := by
  unfold yIV
  split <;> first | rfl | (simp [yrm] at hb)
theorem py_iv {y n a ci i0 : Nat} {hs : List Nat} {as : List AV} (hb : (y == 1 || y == 2 || y == 3 || y == 4 || y == 8) = false) (hc : ci < 99) (hn : n = as.length + 1) (hz : (zlay (vR (some a) :: as)).length ≤ zmxl y) : Py scr m ((pc, .invokevirtual i0, y :: n :: ci :: hs) :: r) ls (as.reverse ++ vR (some a) :: st) h P = (st.length ≤ 4 ∧ yC (gt h a) ci = true ∧ Cy scr y (vR (some a) :: as) h (zaft scr m r ls st hs P)) := by
  have hok : yok (.invokevirtual i0) (y :: n :: ci :: hs) = true := decide_eq_true hc
  have hrm : yrm (.invokevirtual i0) (y :: n :: ci :: hs) = false := hb
  have hp : yprim (.invokevirtual i0) (y :: n :: ci :: hs) (as.reverse ++ vR (some a) :: st) h = none := yIV_n hb
  have hg : (as.reverse ++ vR (some a) :: st)[n - 1]? = some (vR (some a)) := by
    rw [hn, Nat.add_sub_cancel, List.getElem?_append_right (by simp)]
    simp
  have htk : ((as.reverse ++ vR (some a) :: st).take n).reverse = vR (some a) :: as := by
    rw [hn, show as.reverse ++ vR (some a) :: st = (as.reverse ++ [vR (some a)]) ++ st by simp, List.take_left' (by simp)]
    simp
  have hdr : (as.reverse ++ vR (some a) :: st).drop n = st := by
    rw [hn, show as.reverse ++ vR (some a) :: st = (as.reverse ++ [vR (some a)]) ++ st by simp, List.drop_left' (by simp)]
  have hlen : (as.reverse ++ vR (some a) :: st).length = n + st.length := by simp [hn]; omega
  have halt : yalt (.invokevirtual i0) (y :: n :: ci :: hs) (as.reverse ++ vR (some a) :: st) h = (ci == 4 && (yrw (gt h a)).isSome) := by
    unfold yalt
    by_cases h4 : ci = 4
    · subst h4
      show (match (as.reverse ++ vR (some a) :: st)[n - 1]? with | some (.inr (.inr (.inl (some k)))) => (yrw h.1[k]?).isSome | _ => false) = _
      rw [hg]
      rfl
    · have : (ci == 4) = false := by simpa using h4
      rw [this]
      dsimp only
      split
      · rename_i heq
        simp at heq
        exact absurd heq.2.2.1 h4
      · rfl
  by_cases h4 : st.length ≤ 4
  · by_cases hC : yC (gt h a) ci = true
    · rw [py_call (y := y) (n := n) (hs := hs) hok hp hrm ⟨by omega, by omega, by rw [htk]; exact hz⟩ (fun rec => ?_), htk, hdr]
      · exact propext ⟨fun h9 => ⟨h4, hC, h9⟩, fun h9 => h9.2.2⟩
      · rw [halt]
        cases hq : yrw (gt h a) with
        | some q =>
          have hci : ci = 4 := by
            unfold yC at hC
            rw [hq] at hC
            simpa using hC
          subst hci
          rfl
        | none =>
          rw [if_neg (by simp)]
          show (if zrcv _ h n ci = true then _ else none) = _
          rw [if_pos]
          unfold zrcv
          rw [hg]
          show zis h a ci = true
          rw [zis_y]
          unfold yC at hC
          rw [hq] at hC
          exact hC
    · rw [py_stuck2 hok hp hrm (fun rec => ?_)]
      · exact propext ⟨False.elim, fun h9 => hC h9.2.1⟩
      · rw [halt]
        cases hq : yrw (gt h a) with
        | some q =>
          have hci : ¬ ci = 4 := by
            unfold yC at hC
            rw [hq] at hC
            simpa using hC
          rw [if_neg (by simp [hci])]
          show (if zrcv _ h n ci = true then _ else none) = _
          rw [if_neg]
          unfold zrcv
          rw [hg]
          show ¬ zis h a ci = true
          rw [zis_y]
          obtain ⟨k', fs, h1, h2⟩ := yrw_ci hq
          rw [h1]
          unfold zisc
          simp
          omega
        | none =>
          rw [if_neg (by simp)]
          show (if zrcv _ h n ci = true then _ else none) = _
          rw [if_neg]
          unfold zrcv
          rw [hg]
          show ¬ zis h a ci = true
          rw [zis_y]
          unfold yC at hC
          rw [hq] at hC
          exact hC
  · rw [py_stuck2 hok hp hrm (fun rec => ?_)]
    · exact propext ⟨False.elim, fun h9 => h4 h9.1⟩
    · split
      · show zinv zprog zmxl rec m r ls _ h y n hs = none
        exact zinv_len (by omega)
      · show (if zrcv _ h n ci = true then _ else none) = _
        split
        · exact zinv_len (by omega)
        · rfl
theorem py_is {y n i0 : Nat} {hs : List Nat} {as : List AV} (hn : n = as.length) (hz : (zlay as).length ≤ zmxl y) : Py scr m ((pc, .invokestatic i0, y :: n :: hs) :: r) ls (as.reverse ++ st) h P = (st.length ≤ 4 ∧ Cy scr y as h (zaft scr m r ls st hs P)) := by
  have htk : ((as.reverse ++ st).take n).reverse = as := by
    rw [hn, List.take_left' (by simp)]
    simp
  have hdr : (as.reverse ++ st).drop n = st := by
    rw [hn, List.drop_left' (by simp)]
  have hlen : (as.reverse ++ st).length = n + st.length := by simp [hn]
  by_cases h4 : st.length ≤ 4
  · rw [py_call (y := y) (n := n) (hs := hs) rfl rfl rfl ⟨by omega, by omega, by rw [htk]; exact hz⟩ (fun rec => rfl), htk, hdr]
    exact propext ⟨fun h9 => ⟨h4, h9⟩, fun h9 => h9.2⟩
  · refine (py_stuck2 (i := .invokestatic i0) (x := y :: n :: hs) rfl rfl rfl (fun rec => ?_)).trans (propext ⟨False.elim, fun h9 => h4 h9.1⟩)
    show zinv zprog zmxl rec m r ls _ h y n hs = none
    exact zinv_len (by omega)
theorem py_isp {y n a i0 : Nat} {as : List AV} (hb : (y == 0) = false) (hn : n = as.length + 1) (hz : (zlay (vR (some a) :: as)).length ≤ zmxl y) : Py scr m ((pc, .invokespecial i0, [y, n]) :: r) ls (as.reverse ++ vR (some a) :: st) h P = (st.length ≤ 4 ∧ Cy scr y (vR (some a) :: as) h (zaft scr m r ls st [] P)) := by
  have hg : (as.reverse ++ vR (some a) :: st)[n - 1]? = some (vR (some a)) := by
    rw [hn, Nat.add_sub_cancel, List.getElem?_append_right (by simp)]
    simp
  have htk : ((as.reverse ++ vR (some a) :: st).take n).reverse = vR (some a) :: as := by
    rw [hn, show as.reverse ++ vR (some a) :: st = (as.reverse ++ [vR (some a)]) ++ st by simp, List.take_left' (by simp)]
    simp
  have hdr : (as.reverse ++ vR (some a) :: st).drop n = st := by
    rw [hn, show as.reverse ++ vR (some a) :: st = (as.reverse ++ [vR (some a)]) ++ st by simp, List.drop_left' (by simp)]
  have hlen : (as.reverse ++ vR (some a) :: st).length = n + st.length := by simp [hn]; omega
  have hp : yprim (.invokespecial i0) [y, n] (as.reverse ++ vR (some a) :: st) h = none := by
    show yIS [y, n] _ h = none
    unfold yIS
    split
    · rename_i h1 h2
      cases h1
      simp at hb
    · rfl
  have hrf : zref (as.reverse ++ vR (some a) :: st) n = true := by
    unfold zref
    rw [hg]
  by_cases h4 : st.length ≤ 4
  · rw [py_call (y := y) (n := n) (hs := []) rfl hp hb ⟨by omega, by omega, by rw [htk]; exact hz⟩ (fun rec => if_pos hrf), htk, hdr]
    exact propext ⟨fun h9 => ⟨h4, h9⟩, fun h9 => h9.2⟩
  · refine (py_stuck2 rfl hp hb (fun rec => ?_)).trans (propext ⟨False.elim, fun h9 => h4 h9.1⟩)
    exact (if_pos hrf).trans (zinv_len (by omega))
end
