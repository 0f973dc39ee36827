/-! WHAT A PICTURE OF THE MACHINE IS: values, cells, heaps, locals -/
/-- fixed for a whole run: the classes' numbers and slots, the arrays' classes, where the run's own cells begin, where the script and the empty array are, the script -/
abbrev ZK : Type := (Nat → ClassId) × (Nat → Nat → Nat) × (Nat → ClassId) × Nat × Nat × Nat × List Int
abbrev zD (K : ZK) : va_G := (K.1, K.2.1)
abbrev zcA (K : ZK) : Nat → ClassId := K.2.2.1
abbrev zba (K : ZK) : Nat := K.2.2.2.1
abbrev zsb (K : ZK) : Nat := K.2.2.2.2.1
abbrev za0 (K : ZK) : Nat := K.2.2.2.2.2.1
abbrev zsc (K : ZK) : List Int := K.2.2.2.2.2.2
def zA (K : ZK) : Nat → Prop := fun q => zba K ≤ q
def zcl : List vw_C := [(RX0, TX0, 3), (RX1, TX1, 4), (RX2, TX2, 7), (RX3, TX3, 3), (RX4, TX4, 2), (RX5, TX5, 17), (RX6, TX6, 23), (RJx4a65c, TJx4a65c, 3)]
def zty (t : Nat) : FieldType := match t with
  | 0 => .int
  | 1 => .char
  | 2 => .boolean
  | 3 => .long
  | 4 => .double
  | 5 => .object "java/lang/Object"
  | 6 => .array .int
  | 7 => .array .long
  | _ => .array (.array .long)
def ztys (K : ZK) : List (ClassId × FieldType) := (List.range 9).map (fun t => (zcA K t, zty t))
theorem ztys_at (K : ZK) {t : Nat} (h : t < 9) : (ztys K)[t]? = some (zcA K t, zty t) := by
  unfold ztys
  rw [List.getElem?_map, List.getElem?_range h]
  rfl
def zvr (K : ZK) (ws : va_W) (v : AV) (c : Value) : Prop := match v with
  | .inl x => c = .int (Int32.ofInt x)
  | .inr (.inl x) => c = .long (Int64.ofInt x)
  | .inr (.inr (.inl none)) => c = .null
  | .inr (.inr (.inl (some k))) => ∃ q, ws[k]? = some q ∧ c = .ref q.1
  | .inr (.inr (.inr (.inl x))) => c = .float x
  | .inr (.inr (.inr (.inr (.inl x)))) => c = .double x
  | .inr (.inr (.inr (.inr (.inr 0)))) => c = .ref (zsb K)
  | .inr (.inr (.inr (.inr (.inr 1)))) => c = .ref (za0 K)
  | .inr (.inr (.inr (.inr (.inr _)))) => ∃ a, c = .ref a
def zvs (K : ZK) (ws : va_W) : List AV → List Value → Prop
  | [], [] => True
  | v :: st, c :: cs => zvr K ws v c ∧ zvs K ws st cs
  | _, _ => False
/-- the same addresses, and perhaps more -/
def zex (ws ws' : va_W) : Prop := ∀ (k : Nat) (q : Nat × va_E), ws[k]? = some q → ∃ e, ws'[k]? = some (q.1, e)
theorem zex.rf (ws : va_W) : zex ws ws := fun k q h => ⟨q.2, h⟩
theorem zex.tr {a b c : va_W} (h1 : zex a b) (h2 : zex b c) : zex a c := fun k q h => by
  obtain ⟨e, h3⟩ := h1 k q h
  obtain ⟨e2, h4⟩ := h2 k (q.1, e) h3
  exact ⟨e2, h4⟩
theorem zex.set (ws : va_W) {p : Nat} {a : Nat} {e0 e : va_E} (hp : ws[p]? = some (a, e0)) : zex ws (ws.set p (a, e)) := fun k q h => by
  have hl := (List.getElem?_eq_some_iff.mp hp).1
  by_cases hk : p = k
  · subst hk
    rw [hp] at h
    cases h
    exact ⟨e, List.getElem?_set_self hl⟩
  · exact ⟨q.2, by rw [List.getElem?_set_ne hk]; exact h⟩
theorem zex.app (ws w2 : va_W) : zex ws (ws ++ w2) := fun k q h => ⟨q.2, by rw [List.getElem?_append_left (List.getElem?_eq_some_iff.mp h).1]; exact h⟩
theorem zvr.mono {K : ZK} {ws ws' : va_W} (hx : zex ws ws') {v : AV} {c : Value} (h : zvr K ws v c) : zvr K ws' v c := by
  unfold zvr at h ⊢
  split at h <;> first | exact h | skip
  obtain ⟨q, h1, h2⟩ := h
  obtain ⟨e, h3⟩ := hx _ _ h1
  exact ⟨_, h3, h2⟩
theorem zvs.mono {K : ZK} {ws ws' : va_W} (hx : zex ws ws') : ∀ {st : List AV} {cs : List Value}, zvs K ws st cs → zvs K ws' st cs
  | [], [], h => h
  | v :: st, c :: cs, h => ⟨h.1.mono hx, zvs.mono hx h.2⟩
  | [], _ :: _, h => h.elim
  | _ :: _, [], h => h.elim
theorem zvs.len {K : ZK} {ws : va_W} : ∀ {st : List AV} {cs : List Value}, zvs K ws st cs → st.length = cs.length
  | [], [], h => rfl
  | v :: st, c :: cs, h => by simp [zvs.len h.2]
  | [], _ :: _, h => h.elim
  | _ :: _, [], h => h.elim
theorem zvs.at {K : ZK} {ws : va_W} : ∀ {st : List AV} {cs : List Value}, zvs K ws st cs → ∀ (k : Nat) (v : AV), st[k]? = some v → ∃ c, cs[k]? = some c ∧ zvr K ws v c
  | [], [], h, k, v, hk => by simp at hk
  | v :: st, c :: cs, h, 0, w, hk => by
    simp at hk
    subst hk
    exact ⟨c, rfl, h.1⟩
  | v :: st, c :: cs, h, k + 1, w, hk => by
    simp at hk
    simpa using zvs.at h.2 k w hk
  | [], _ :: _, h, _, _, _ => h.elim
  | _ :: _, [], h, _, _, _ => h.elim
theorem zvs.set {K : ZK} {ws : va_W} : ∀ {st : List AV} {cs : List Value}, zvs K ws st cs → ∀ (k : Nat) (v : AV) (c : Value), zvr K ws v c → zvs K ws (st.set k v) (cs.set k c)
  | [], [], h, k, v, c, hv => trivial
  | v :: st, c :: cs, h, 0, w, d, hv => ⟨hv, h.2⟩
  | v :: st, c :: cs, h, k + 1, w, d, hv => ⟨h.1, zvs.set h.2 k w d hv⟩
  | [], _ :: _, h, _, _, _, _ => h.elim
  | _ :: _, [], h, _, _, _, _ => h.elim
theorem zvs.app {K : ZK} {ws : va_W} : ∀ {st : List AV} {cs : List Value} {st2 : List AV} {cs2 : List Value}, zvs K ws st cs → zvs K ws st2 cs2 → zvs K ws (st ++ st2) (cs ++ cs2)
  | [], [], _, _, _, h2 => h2
  | v :: st, c :: cs, _, _, h, h2 => ⟨h.1, zvs.app h.2 h2⟩
  | [], _ :: _, _, _, h, _ => h.elim
  | _ :: _, [], _, _, h, _ => h.elim
theorem zvs.take {K : ZK} {ws : va_W} : ∀ {st : List AV} {cs : List Value}, zvs K ws st cs → ∀ n, zvs K ws (st.take n) (cs.take n) ∧ zvs K ws (st.drop n) (cs.drop n)
  | st, cs, h, 0 => ⟨trivial, h⟩
  | [], [], h, n + 1 => ⟨trivial, trivial⟩
  | v :: st, c :: cs, h, n + 1 => ⟨⟨h.1, (zvs.take h.2 n).1⟩, (zvs.take h.2 n).2⟩
  | [], _ :: _, h, _ + 1 => h.elim
  | _ :: _, [], h, _ + 1 => h.elim
theorem zvs.rev {K : ZK} {ws : va_W} : ∀ {st : List AV} {cs : List Value}, zvs K ws st cs → zvs K ws st.reverse cs.reverse
  | [], [], h => trivial
  | v :: st, c :: cs, h => by
    rw [List.reverse_cons, List.reverse_cons]
    exact zvs.app (zvs.rev h.2) ⟨h.1, trivial⟩
  | [], _ :: _, h => h.elim
  | _ :: _, [], h => h.elim
theorem zvr.cat {K : ZK} {ws : va_W} {v : AV} {c : Value} (h : zvr K ws v c) : c.category = if zwide v = true then 2 else 1 := by
  unfold zvr at h
  split at h <;> first | (subst h; rfl) | (obtain ⟨q, -, rfl⟩ := h; rfl) | (obtain ⟨q, rfl⟩ := h; simp [zwide, Value.category])
theorem zvs.catle {K : ZK} {ws : va_W} : ∀ {st : List AV} {cs : List Value}, zvs K ws st cs → (cs.map fun v => v.category).sum ≤ 2 * st.length
  | [], [], h => Nat.le_refl _
  | v :: st, c :: cs, h => by
    have h1 := zvs.catle h.2
    have h2 : c.category ≤ 2 := by rw [h.1.cat]; split <;> omega
    simp only [List.map_cons, List.sum_cons, List.length_cons]
    omega
  | [], _ :: _, h => h.elim
  | _ :: _, [], h => h.elim
def zqr (ws : va_W) (o : Option Nat) (r : Option Nat) : Prop := match o with
  | none => r = none
  | some k => ∃ q, ws[k]? = some q ∧ r = some q.1
theorem zqr.mono {ws ws' : va_W} (hx : zex ws ws') {o r : Option Nat} (h : zqr ws o r) : zqr ws' o r := by
  cases o with
  | none => exact h
  | some k =>
    obtain ⟨q, h1, h2⟩ := h
    obtain ⟨e, h3⟩ := hx _ _ h1
    exact ⟨_, h3, h2⟩
theorem zqr.vr {K : ZK} {ws : va_W} {o r : Option Nat} (h : zqr ws o r) : zvr K ws (vR o) (va_rf r) := by
  cases o with
  | none => cases h; rfl
  | some k =>
    obtain ⟨q, h1, rfl⟩ := h
    exact ⟨q, h1, rfl⟩
/-- a cell and what the world has of it -/
def zCr (K : ZK) (ws : va_W) (c : AC) (e : va_E) : Prop := match c with
  | .inl (ci, fs) => ∃ vs, e = .inr (ci, vs) ∧ zvs K ws fs vs ∧ fs.length = ((zcl[ci]?).map (fun r => r.2.2)).getD 0
  | .inr (.inl (t, xs)) => t ≤ 2 ∧ e = .inl (zcA K t, xs.length, .inl (fun j => Int32.ofInt (xs.getD j 0)))
  | .inr (.inr (.inl xs)) => e = .inl (zcA K 3, xs.length, .inr (.inl (fun j => Int64.ofInt (xs.getD j 0))))
  | .inr (.inr (.inr (.inl xs))) => e = .inl (zcA K 4, xs.length, .inr (.inr (.inr (.inl (fun j => xs.getD j 0)))))
  | .inr (.inr (.inr (.inr (t, xs)))) => t ≤ 3 ∧ ∃ f : Nat → Option Nat, e = .inl (zcA K (5 + t), xs.length, .inr (.inr (.inr (.inr f)))) ∧ ∀ j o, xs[j]? = some o → zqr ws o (f j)
theorem zCr.mono {K : ZK} {ws ws' : va_W} (hx : zex ws ws') {c : AC} {e : va_E} (h : zCr K ws c e) : zCr K ws' c e := by
  unfold zCr at h ⊢
  split at h
  · obtain ⟨vs, h1, h2, h3⟩ := h
    exact ⟨vs, h1, h2.mono hx, h3⟩
  · exact h
  · exact h
  · exact h
  · obtain ⟨ht, f, h1, h2⟩ := h
    exact ⟨ht, f, h1, fun j o ho => (h2 j o ho).mono hx⟩
def zHR (K : ZK) (ws : va_W) (h : Hp) : Prop := ws.length = h.1.length ∧ ∀ (k : Nat) (c : AC), h.1[k]? = some c → ∃ q, ws[k]? = some q ∧ zCr K ws c q.2
theorem zHR.set {K : ZK} {ws : va_W} {h : Hp} (H : zHR K ws h) {k : Nat} {a : Nat} {e0 e : va_E} {c : AC} (hk : ws[k]? = some (a, e0)) (he : zCr K ws c e) : zHR K (ws.set k (a, e)) (h.1.set k c, h.2) := by
  have hx := zex.set ws (e := e) hk
  have hl := (List.getElem?_eq_some_iff.mp hk).1
  refine ⟨by simp [H.1], fun j d hd => ?_⟩
  by_cases hj : k = j
  · subst hj
    have hl2 : k < h.1.length := by rw [← H.1]; exact hl
    rw [List.getElem?_set_self hl2] at hd
    cases hd
    exact ⟨(a, e), List.getElem?_set_self hl, he.mono hx⟩
  · rw [List.getElem?_set_ne hj] at hd
    obtain ⟨q, h1, h2⟩ := H.2 j d hd
    exact ⟨q, by rw [List.getElem?_set_ne hj]; exact h1, h2.mono hx⟩
theorem zHR.push {K : ZK} {ws : va_W} {h : Hp} (H : zHR K ws h) {a : Nat} {e : va_E} {c : AC} (he : zCr K ws c e) : zHR K (ws ++ [(a, e)]) (h.1 ++ [c], h.2) := by
  have hx := zex.app ws [(a, e)]
  refine ⟨by simp [H.1], fun j d hd => ?_⟩
  by_cases hj : j < h.1.length
  · rw [List.getElem?_append_left hj] at hd
    obtain ⟨q, h1, h2⟩ := H.2 j d hd
    exact ⟨q, by rw [List.getElem?_append_left (by rw [H.1]; exact hj)]; exact h1, h2.mono hx⟩
  · rw [List.getElem?_append_right (by omega)] at hd
    have h0 : j - h.1.length = 0 := by
      have := (List.getElem?_eq_some_iff.mp hd).1
      simp at this
      omega
    rw [h0] at hd
    cases hd
    refine ⟨(a, e), ?_, he.mono hx⟩
    rw [List.getElem?_append_right (by rw [H.1]; omega), H.1, h0]
    rfl
theorem zHR.exc {K : ZK} {ws : va_W} {h : Hp} (H : zHR K ws h) (n : Nat) : zHR K ws (h.1, n) := H
/-- the locals that are known -/
def zLR (K : ZK) (ws : va_W) (ls : Lc) (lsC : Array Slot) (nL : Nat) : Prop := ls.length = nL ∧ ∃ L, lv_has lsC nL L ∧ ∀ (j : Nat) (v : AV), ls[j]? = some (some v) → ∃ c, zvr K ws v c ∧ (j, c) ∈ L
theorem zLR.mono {K : ZK} {ws ws' : va_W} (hx : zex ws ws') {ls : Lc} {lsC : Array Slot} {nL : Nat} (h : zLR K ws ls lsC nL) : zLR K ws' ls lsC nL := by
  obtain ⟨h0, L, h1, h2⟩ := h
  refine ⟨h0, L, h1, fun j v hv => ?_⟩
  obtain ⟨c, h3, h4⟩ := h2 j v hv
  exact ⟨c, h3.mono hx, h4⟩
theorem zLR.at {K : ZK} {ws : va_W} {ls : Lc} {lsC : Array Slot} {nL : Nat} (h : zLR K ws ls lsC nL) {j : Nat} {v : AV} (hv : ls.getD j none = some v) : ∃ c, zvr K ws v c ∧ lsC[j]? = some (.val c) := by
  obtain ⟨h0, L, h1, h2⟩ := h
  rw [List.getD_eq_getElem?_getD] at hv
  cases hj : ls[j]? with
  | none => rw [hj] at hv; cases hv
  | some w =>
    rw [hj] at hv
    simp at hv
    subst hv
    obtain ⟨c, h3, h4⟩ := h2 j v hj
    exact ⟨c, h3, h1.2.2 (j, c) h4⟩
theorem zLR.size {K : ZK} {ws : va_W} {ls : Lc} {lsC : Array Slot} {nL : Nat} (h : zLR K ws ls lsC nL) : lsC.size = nL := by
  obtain ⟨h0, L, h1, h2⟩ := h
  exact h1.1
