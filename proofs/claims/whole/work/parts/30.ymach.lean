/-! THE SECOND MACHINE: a row of numbers is one cell, and its least methods one step -/
def rW (cap : Nat) (xs : List Int) : AC := .inl (100 + 2 * cap, xs.map vI)
/-- the array of a row: nothing looks at it but the row -/
def rHid (cap : Nat) : AC := .inl (101 + 2 * cap, [])
def gI (v : AV) : Int := match v with
  | .inl x => x
  | _ => 0
def yrw (c : Option AC) : Option (Nat × List Int) := match c with
  | some (.inl (k, fs)) => if 100 ≤ k ∧ k % 2 = 0 then some ((k - 100) / 2, fs.map gI) else none
  | _ => none
theorem map_gI (xs : List Int) : (xs.map vI).map gI = xs := by
  induction xs with
  | nil => rfl
  | cons a t ih => simp only [List.map_cons, ih]; rfl
theorem yrw_rW (cap : Nat) (xs : List Int) : yrw (some (rW cap xs)) = some (cap, xs) := by
  unfold yrw rW
  simp only
  rw [if_pos (by omega), map_gI, show (100 + 2 * cap - 100) / 2 = cap by omega]
/-- a number that an int holds -/
def zr (i : Int) : Prop := -2147483648 ≤ i ∧ i < 2147483648
def zrB (i : Int) : Bool := decide (-2147483648 ≤ i ∧ i < 2147483648)
theorem zrB_t {i : Int} (h1 : -2147483648 ≤ i) (h2 : i < 2147483648) : zrB i = true := decide_eq_true ⟨h1, h2⟩
def yat (xs : List Int) (i : Int) : Int := if 0 ≤ i then xs.getD i.toNat 0 else 0
def yput (xs : List Int) (i v : Int) : List Int := if 0 ≤ i then xs.set i.toNat v else xs
def yadd (cap : Nat) (xs : List Int) (v : Int) : List Int := if xs.length < cap then xs ++ [v] else xs
def yok (i : Instr) (x : List Nat) : Bool := match i with
  | .getfield _ => decide (x.getD 0 0 < 99)
  | .putfield _ => decide (x.getD 0 0 < 99)
  | .new _ => decide (x.getD 0 0 < 99)
  | .checkcast _ => decide (x.getD 0 0 < 99)
  | .invokevirtual _ => decide (x.getD 2 0 < 99)
  | _ => true
def yGF (x : List Nat) (st : Sk) (h : Hp) : Option (Sk × Hp) := match x, st with
  | [4, 1], .inr (.inr (.inl (some a))) :: st => (yrw h.1[a]?).map (fun r => (vI r.2.length :: st, h))
  | _, _ => none
def yPF (x : List Nat) (st : Sk) (h : Hp) : Option (Sk × Hp) := match x, st with
  | [4, 1, 0], .inl v :: .inr (.inr (.inl (some a))) :: st => (yrw h.1[a]?).bind (fun r => if 0 ≤ v ∧ v ≤ (r.2.length : Int) then some (st, (h.1.set a (rW r.1 (r.2.take v.toNat)), h.2)) else none)
  | _, _ => none
def yIV (x : List Nat) (st : Sk) (h : Hp) : Option (Sk × Hp) := match x, st with
  | [1, 1, 4], .inr (.inr (.inl (some a))) :: st => (yrw h.1[a]?).bind (fun r => if st.length ≤ 4 then some (vI r.2.length :: st, h) else none)
  | [2, 2, 4], .inl i :: .inr (.inr (.inl (some a))) :: st => (yrw h.1[a]?).bind (fun r => if st.length ≤ 4 ∧ zrB i = true then some (vI (yat r.2 i) :: st, h) else none)
  | [3, 3, 4], .inl v :: .inl i :: .inr (.inr (.inl (some a))) :: st => (yrw h.1[a]?).bind (fun r => if st.length ≤ 4 ∧ zrB i = true then some (st, (h.1.set a (rW r.1 (yput r.2 i v)), h.2)) else none)
  | [4, 2, 4], .inl v :: .inr (.inr (.inl (some a))) :: st => (yrw h.1[a]?).bind (fun r => if st.length ≤ 4 then some (st, (h.1.set a (rW r.1 (yadd r.1 r.2 v)), h.2)) else none)
  | [8, 3, 4], .inl v :: .inl i :: .inr (.inr (.inl (some a))) :: st => (yrw h.1[a]?).bind (fun r => if st.length ≤ 4 ∧ zrB i = true ∧ 0 ≤ i ∧ i ≤ r.1 then some (st, (h.1.set a (rW r.1 (List.replicate i.toNat v)), h.2)) else none)
  | _, _ => none
/-- a row that isn't made yet -/
def yfr (c : Option AC) : Bool := match c with
  | some (.inl (4, [_, _])) => true
  | _ => false
def yIS (x : List Nat) (st : Sk) (h : Hp) : Option (Sk × Hp) := match x, st with
  | [0, 2], .inl i :: .inr (.inr (.inl (some a))) :: st => if st.length ≤ 4 ∧ 0 ≤ i ∧ i < 1000000 ∧ yfr h.1[a]? = true ∧ a + 1 = h.1.length then some (st, (h.1.set a (rW i.toNat []) ++ [rHid i.toNat], h.2)) else none
  | _, _ => none
def yprim (i : Instr) (x : List Nat) (st : Sk) (h : Hp) : Option (Sk × Hp) := match i with
  | .getfield _ => yGF x st h
  | .putfield _ => yPF x st h
  | .invokevirtual _ => yIV x st h
  | .invokespecial _ => yIS x st h
  | _ => none
/-- a call of a row's method that isn't one step -/
def yalt (i : Instr) (x : List Nat) (st : Sk) (h : Hp) : Bool := match i with
  | .invokevirtual _ => (match x with
    | _ :: n :: 4 :: _ => (match st[n - 1]? with
      | some (.inr (.inr (.inl (some k)))) => (yrw h.1[k]?).isSome
      | _ => false)
    | _ => false)
  | _ => false
/-- one of a row's methods that are one step, or nothing -/
def yrm (i : Instr) (x : List Nat) : Bool := match i with
  | .invokevirtual _ => (match x with
    | y :: _ => y == 1 || y == 2 || y == 3 || y == 4 || y == 8
    | _ => false)
  | .invokespecial _ => (match x with
    | y :: _ => y == 0
    | _ => false)
  | _ => false
section
variable (scr : List Int) (prog : Nat → Nat → List AI) (mxl : Nat → Nat) (fks : Nat → List Nat)
def yrun : Nat → Nat → List AI → Lc → Sk → Hp → Option Rs
  | 0, _, _, _, _, _ => none
  | _ + 1, _, [], _, _, _ => none
  | n + 1, m, (_, i, x) :: r, ls, st, h => if yok i x = true then (match yprim i x st h with
    | some q => yrun n m r ls q.1 q.2
    | none => if yrm i x = true then none else if yalt i x st h = true then zinv prog mxl (yrun n) m r ls st h (x.getD 0 0) (x.getD 1 0) (x.drop 3) else zstp scr prog mxl fks (yrun n) m r i x ls st h) else none
end
section
variable {scr : List Int} {prog : Nat → Nat → List AI} {mxl : Nat → Nat} {fks : Nat → List Nat}
theorem yrun_mono : ∀ (n m : Nat) (code : List AI) (ls : Lc) (st : Sk) (h : Hp) (res : Rs), yrun scr prog mxl fks n m code ls st h = some res → yrun scr prog mxl fks (n + 1) m code ls st h = some res
  | 0, m, code, ls, st, h, res, hr => by simp [yrun] at hr
  | n + 1, m, [], ls, st, h, res, hr => by simp [yrun] at hr
  | n + 1, m, (pc, i, x) :: r, ls, st, h, res, hr => by
    simp only [yrun] at hr
    rw [yrun]
    by_cases hk : yok i x = true
    · rw [if_pos hk] at hr ⊢
      cases hq : yprim i x st h with
      | some q =>
        rw [hq] at hr
        exact yrun_mono n _ _ _ _ _ _ hr
      | none =>
        rw [hq] at hr
        by_cases hb0 : yrm i x = true
        · simp only [hb0, if_true] at hr
          cases hr
        · by_cases hb : yalt i x st h = true
          · simp only [hb0, hb, if_true, Bool.false_eq_true, if_false] at hr ⊢
            exact zinv_mono (yrun_mono n) hr
          · simp only [hb0, hb, Bool.false_eq_true, if_false] at hr ⊢
            exact zstp_mono (yrun_mono n) hr
    · rw [if_neg hk] at hr
      cases hr
theorem yrun_add {n : Nat} {m : Nat} {code : List AI} {ls : Lc} {st : Sk} {h : Hp} {res : Rs} (hr : yrun scr prog mxl fks n m code ls st h = some res) : ∀ k, yrun scr prog mxl fks (n + k) m code ls st h = some res
  | 0 => hr
  | k + 1 => yrun_mono _ _ _ _ _ _ _ (yrun_add hr k)
theorem yrun_le {n n' : Nat} (hn : n ≤ n') {m : Nat} {code : List AI} {ls : Lc} {st : Sk} {h : Hp} {res : Rs} (hr : yrun scr prog mxl fks n m code ls st h = some res) : yrun scr prog mxl fks n' m code ls st h = some res := by
  have := yrun_add hr (n' - n)
  rwa [show n + (n' - n) = n' by omega] at this
theorem yrun_det {n n' : Nat} {m : Nat} {code : List AI} {ls : Lc} {st : Sk} {h : Hp} {a b : Rs} (h1 : yrun scr prog mxl fks n m code ls st h = some a) (h2 : yrun scr prog mxl fks n' m code ls st h = some b) : a = b := by
  have e1 := yrun_add h1 n'
  have e2 := yrun_add h2 n
  rw [Nat.add_comm] at e2
  rw [e1] at e2
  exact Option.some.inj e2
end
/-- from here the second machine comes to an answer with P -/
def Py (scr : List Int) (m : Nat) (code : List AI) (ls : Lc) (st : Sk) (h : Hp) (P : Rs → Prop) : Prop := ∃ n res, yrun scr zprog zmxl zfks n m code ls st h = some res ∧ P res
/-- a method, from its entry -/
def Cy (scr : List Int) (y : Nat) (as : List AV) (h : Hp) (P : Rs → Prop) : Prop := Py scr y (zprog y 0) (zent zmxl y as) [] h P
/-- what a call's end does -/
def zaft (scr : List Int) (m : Nat) (r : List AI) (ls : Lc) (st : Sk) (hs : List Nat) (P : Rs → Prop) (o : Rs) : Prop := match o.1 with
  | .inl v => Py scr m r ls (v.toList ++ st) o.2 P
  | .inr e => match zhan hs e with
    | some l => Py scr m (zprog m l) ls [vM 2] o.2 P
    | none => hs = [] ∧ P (.inr e, o.2)
theorem Py.mono {scr : List Int} {m : Nat} {code : List AI} {ls : Lc} {st : Sk} {h : Hp} {P Q : Rs → Prop} (hx : Py scr m code ls st h P) (k : ∀ r, P r → Q r) : Py scr m code ls st h Q := by
  obtain ⟨n, r, h1, h2⟩ := hx
  exact ⟨n, r, h1, k r h2⟩
section
variable {scr : List Int} {m m' pc : Nat} {i : Instr} {x : List Nat} {r c' : List AI} {ls ls' : Lc} {st st' : Sk} {h h' : Hp} {P : Rs → Prop}
theorem py_step (hk : yok i x = true) (hp : yprim i x st h = none) (hb : yrm i x = false ∧ yalt i x st h = false) (e : ∀ rec, zstp scr zprog zmxl zfks rec m r i x ls st h = rec m' c' ls' st' h') : Py scr m ((pc, i, x) :: r) ls st h P = Py scr m' c' ls' st' h' P := by
  apply propext
  constructor
  · rintro ⟨n, res, h1, h2⟩
    cases n with
    | zero => simp [yrun] at h1
    | succ n =>
      simp only [yrun] at h1
      rw [if_pos hk, hp] at h1
      simp only [hb.1, hb.2, Bool.false_eq_true, if_false] at h1
      rw [e] at h1
      exact ⟨n, res, h1, h2⟩
  · rintro ⟨n, res, h1, h2⟩
    refine ⟨n + 1, res, ?_, h2⟩
    simp only [yrun]
    rw [if_pos hk, hp]
    simp only [hb.1, hb.2, Bool.false_eq_true, if_false]
    rw [e]
    exact h1
theorem py_end {o : Rs} (hk : yok i x = true) (hp : yprim i x st h = none) (hb : yrm i x = false ∧ yalt i x st h = false) (e : ∀ rec, zstp scr zprog zmxl zfks rec m r i x ls st h = some o) : Py scr m ((pc, i, x) :: r) ls st h P = P o := by
  apply propext
  constructor
  · rintro ⟨n, res, h1, h2⟩
    cases n with
    | zero => simp [yrun] at h1
    | succ n =>
      simp only [yrun] at h1
      rw [if_pos hk, hp] at h1
      simp only [hb.1, hb.2, Bool.false_eq_true, if_false] at h1
      rw [e] at h1
      cases h1
      exact h2
  · intro h2
    refine ⟨1, o, ?_, h2⟩
    simp only [yrun]
    rw [if_pos hk, hp]
    simp only [hb.1, hb.2, Bool.false_eq_true, if_false]
    rw [e]
theorem py_prim {q : Sk × Hp} (hk : yok i x = true) (hp : yprim i x st h = some q) : Py scr m ((pc, i, x) :: r) ls st h P = Py scr m r ls q.1 q.2 P := by
  apply propext
  constructor
  · rintro ⟨n, res, h1, h2⟩
    cases n with
    | zero => simp [yrun] at h1
    | succ n =>
      simp only [yrun] at h1
      rw [if_pos hk, hp] at h1
      exact ⟨n, res, h1, h2⟩
  · rintro ⟨n, res, h1, h2⟩
    refine ⟨n + 1, res, ?_, h2⟩
    simp only [yrun]
    rw [if_pos hk, hp]
    exact h1
theorem py_call {y n : Nat} {hs : List Nat} (hk : yok i x = true) (hp : yprim i x st h = none) (hb : yrm i x = false) (hc : n ≤ st.length ∧ st.length ≤ n + 4 ∧ (zlay (st.take n).reverse).length ≤ zmxl y) (e : ∀ rec, (if yalt i x st h = true then zinv zprog zmxl rec m r ls st h (x.getD 0 0) (x.getD 1 0) (x.drop 3) else zstp scr zprog zmxl zfks rec m r i x ls st h) = zinv zprog zmxl rec m r ls st h y n hs) : Py scr m ((pc, i, x) :: r) ls st h P = Cy scr y (st.take n).reverse h (zaft scr m r ls (st.drop n) hs P) := by
  apply propext
  constructor
  · rintro ⟨k, res, h1, h2⟩
    cases k with
    | zero => simp [yrun] at h1
    | succ k =>
      simp only [yrun] at h1
      rw [if_pos hk, hp] at h1
      simp only [hb, Bool.false_eq_true, if_false] at h1
      rw [e] at h1
      unfold zinv at h1
      rw [if_pos hc] at h1
      obtain ⟨o, h3, h4⟩ := Option.bind_eq_some_iff.mp h1
      refine ⟨k, o, h3, ?_⟩
      unfold zbeh at h4
      unfold zaft
      split at h4
      · rename_i v hv
        rw [hv]
        exact ⟨k, res, h4, h2⟩
      · rename_i e' he
        rw [he]
        dsimp only
        split at h4
        · rename_i l hl
          rw [hl]
          exact ⟨k, res, h4, h2⟩
        · rename_i hl
          rw [hl]
          split at h4
          · rename_i hn
            cases h4
            exact ⟨hn, h2⟩
          · cases h4
  · rintro ⟨k, o, h3, h4⟩
    unfold zaft at h4
    have key : ∃ k' res, zbeh zprog (yrun scr zprog zmxl zfks k') m r ls (st.drop n) hs o = some res ∧ P res := by
      unfold zbeh
      split at h4
      · rename_i v hv
        rw [hv]
        obtain ⟨k', res, h5, h6⟩ := h4
        exact ⟨k', res, h5, h6⟩
      · rename_i e' he
        rw [he]
        dsimp only
        split at h4
        · rename_i l hl
          rw [hl]
          obtain ⟨k', res, h5, h6⟩ := h4
          exact ⟨k', res, h5, h6⟩
        · rename_i hl
          rw [hl]
          dsimp only
          rw [if_pos h4.1]
          exact ⟨0, _, rfl, h4.2⟩
    obtain ⟨k', res, h5, h6⟩ := key
    refine ⟨k + k' + 1, res, ?_, h6⟩
    simp only [yrun]
    rw [if_pos hk, hp]
    simp only [hb, Bool.false_eq_true, if_false]
    rw [e]
    unfold zinv
    rw [if_pos hc]
    have h7 := yrun_le (n' := k + k') (by omega) h3
    rw [h7]
    exact zbeh_mono (fun m c ls st h r hr => yrun_le (by omega) hr) h5
end
