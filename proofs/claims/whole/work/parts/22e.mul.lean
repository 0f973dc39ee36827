/-! ===== long[a][b][n]: the model's own making of it ===== -/
def m3O (c : ClassId) (N h0 w : Nat) : Nat → Cell
  | 0 => { cls := c, slots := Array.replicate N .null, vm := .none }
  | i + 1 => (m3O c N h0 w i).setSlot i (.ref (h0 + 1 + i * w))
def m3F (s : State) (c c2 c1 : ClassId) (N M L : Nat) (dv : Value) : Nat → State
  | 0 => s.pushCell (m3O c N s.heap.size (M + 1) 0)
  | i + 1 => (Jvm.Free.Multi.fill (m3F s c c2 c1 N M L dv i) c2 c1 M L dv M).setCell s.heap.size (m3O c N s.heap.size (M + 1) (i + 1))
theorem m3O_facts (c : ClassId) (N h0 w : Nat) : ∀ i, (m3O c N h0 w i).cls = c ∧ (m3O c N h0 w i).vm = .none ∧ (m3O c N h0 w i).slots.size = N
  | 0 => ⟨rfl, rfl, by simp [m3O]⟩
  | i + 1 => by
    obtain ⟨a, b, d⟩ := m3O_facts c N h0 w i
    exact ⟨by simp [m3O, Cell.setSlot, a], by simp [m3O, Cell.setSlot, b], by simp [m3O, Cell.setSlot, d]⟩
theorem m3F_facts (s : State) (c c2 c1 : ClassId) (N M L : Nat) (dv : Value) : ∀ i, (m3F s c c2 c1 N M L dv i).heap.size = s.heap.size + 1 + i * (M + 1) ∧ (m3F s c c2 c1 N M L dv i).heap[s.heap.size]? = some (m3O c N s.heap.size (M + 1) i) ∧
    (m3F s c c2 c1 N M L dv i).vm = s.vm ∧ (m3F s c c2 c1 N M L dv i).slotsUsed = s.slotsUsed + N + i * (M + M * L)
  | 0 => ⟨by simp [m3F], by simp [m3F], rfl, by simp [m3F, m3O]⟩
  | i + 1 => by
    obtain ⟨a, b, d, u⟩ := m3F_facts s c c2 c1 N M L dv i
    obtain ⟨a2, b2, d2, u2⟩ := Jvm.Free.Multi.fill_facts (m3F s c c2 c1 N M L dv i) c2 c1 M L dv M
    have hlt : s.heap.size < (m3F s c c2 c1 N M L dv i).heap.size := by omega
    have hb' := (Jvm.Free.Multi.fill_old (m3F s c c2 c1 N M L dv i) c2 c1 M L dv hlt M).trans b
    have e1 : (i + 1) * (M + 1) = i * (M + 1) + (M + 1) := Nat.succ_mul _ _
    have e2 : (i + 1) * (M + M * L) = i * (M + M * L) + (M + M * L) := Nat.succ_mul _ _
    refine ⟨?_, State.heap_setCell_self hb', ?_, ?_⟩
    · show ((Jvm.Free.Multi.fill (m3F s c c2 c1 N M L dv i) c2 c1 M L dv M).setCell s.heap.size _).heap.size = _
      rw [e1]
      simp only [State.setCell, Array.size_setIfInBounds]
      omega
    · show ((Jvm.Free.Multi.fill (m3F s c c2 c1 N M L dv i) c2 c1 M L dv M).setCell s.heap.size _).vm = _
      exact d2.trans d
    · show ((Jvm.Free.Multi.fill (m3F s c c2 c1 N M L dv i) c2 c1 M L dv M).setCell s.heap.size _).slotsUsed = _
      rw [e2]
      have : ((Jvm.Free.Multi.fill (m3F s c c2 c1 N M L dv i) c2 c1 M L dv M).setCell s.heap.size (m3O c N s.heap.size (M + 1) (i + 1))).slotsUsed = (Jvm.Free.Multi.fill (m3F s c c2 c1 N M L dv i) c2 c1 M L dv M).slotsUsed := by simp
      omega
theorem m3F_setTop (s : State) (f : JFrame) (c c2 c1 : ClassId) (N M L : Nat) (dv : Value) : ∀ i, m3F (s.setTop f) c c2 c1 N M L dv i = (m3F s c c2 c1 N M L dv i).setTop f
  | 0 => rfl
  | i + 1 => by simp only [m3F, m3F_setTop s f c c2 c1 N M L dv i, Jvm.Free.Multi.fill_setTop, State.heap_setTop, State.setCell_setTop]
theorem m3F_old (s : State) (c c2 c1 : ClassId) (N M L : Nat) (dv : Value) {a : Addr} (ha : a < s.heap.size) : ∀ i, (m3F s c c2 c1 N M L dv i).heap[a]? = s.heap[a]?
  | 0 => State.heap_pushCell_of_lt _ _ ha
  | i + 1 => by
    have f1 := (m3F_facts s c c2 c1 N M L dv i).1
    show ((Jvm.Free.Multi.fill (m3F s c c2 c1 N M L dv i) c2 c1 M L dv M).setCell s.heap.size _).heap[a]? = _
    rw [State.heap_setCell_other (Nat.ne_of_gt ha), Jvm.Free.Multi.fill_old _ _ _ _ _ _ (Nat.lt_of_lt_of_le ha (by rw [f1]; omega))]
    exact m3F_old s c c2 c1 N M L dv ha i
theorem m3F_mid (s : State) (c c2 c1 : ClassId) (N M L : Nat) (dv : Value) : ∀ i j, j < i → (m3F s c c2 c1 N M L dv i).heap[s.heap.size + 1 + j * (M + 1)]? = some (Jvm.Free.Multi.outerC c2 M (s.heap.size + 1 + j * (M + 1)) M)
  | 0, _, h => absurd h (Nat.not_lt_zero _)
  | i + 1, j, h => by
    have f1 := (m3F_facts s c c2 c1 N M L dv i).1
    show ((Jvm.Free.Multi.fill (m3F s c c2 c1 N M L dv i) c2 c1 M L dv M).setCell s.heap.size _).heap[_]? = _
    rw [State.heap_setCell_other (show s.heap.size ≠ s.heap.size + 1 + j * (M + 1) by omega)]
    rcases Nat.lt_or_ge j i with hj | hj
    · have hmul : (j + 1) * (M + 1) ≤ i * (M + 1) := Nat.mul_le_mul_right _ hj
      rw [Nat.succ_mul] at hmul
      have hlt : s.heap.size + 1 + j * (M + 1) < (m3F s c c2 c1 N M L dv i).heap.size := by rw [f1]; omega
      rw [Jvm.Free.Multi.fill_old _ _ _ _ _ _ hlt]
      exact m3F_mid s c c2 c1 N M L dv i j hj
    · have e : j = i := by omega
      subst e
      rw [← f1]
      exact (Jvm.Free.Multi.fill_facts _ _ _ _ _ _ _).2.1
theorem m3F_in (s : State) (c c2 c1 : ClassId) (N M L : Nat) (dv : Value) : ∀ i j l, j < i → l < M → (m3F s c c2 c1 N M L dv i).heap[s.heap.size + 1 + j * (M + 1) + 1 + l]? = some (Jvm.Free.Multi.innerC c1 L dv)
  | 0, _, _, h, _ => absurd h (Nat.not_lt_zero _)
  | i + 1, j, l, h, hl => by
    have f1 := (m3F_facts s c c2 c1 N M L dv i).1
    show ((Jvm.Free.Multi.fill (m3F s c c2 c1 N M L dv i) c2 c1 M L dv M).setCell s.heap.size _).heap[_]? = _
    rw [State.heap_setCell_other (show s.heap.size ≠ s.heap.size + 1 + j * (M + 1) + 1 + l by omega)]
    rcases Nat.lt_or_ge j i with hj | hj
    · have hmul : (j + 1) * (M + 1) ≤ i * (M + 1) := Nat.mul_le_mul_right _ hj
      rw [Nat.succ_mul] at hmul
      have hlt : s.heap.size + 1 + j * (M + 1) + 1 + l < (m3F s c c2 c1 N M L dv i).heap.size := by rw [f1]; omega
      rw [Jvm.Free.Multi.fill_old _ _ _ _ _ _ hlt]
      exact m3F_in s c c2 c1 N M L dv i j l hj hl
    · have e : j = i := by omega
      subst e
      rw [← f1]
      exact Jvm.Free.Multi.fill_inner _ _ _ _ _ _ _ _ hl
theorem m3O_slot (c : ClassId) (N h0 w : Nat) : ∀ i j, j < N → (m3O c N h0 w i).slots[j]? = some (if j < i then .ref (h0 + 1 + j * w) else .null)
  | 0, j, h => by simp [m3O, h]
  | i + 1, j, h => by
    have ih := m3O_slot c N h0 w i j h
    have hs := (m3O_facts c N h0 w i).2.2
    show ((m3O c N h0 w i).setSlot i (.ref (h0 + 1 + i * w))).slots[j]? = _
    simp only [Cell.setSlot, Array.getElem?_setIfInBounds]
    by_cases e : i = j
    · subst e; simp [hs, h]
    · rw [if_neg e, ih]
      by_cases hj : j < i
      · rw [if_pos hj, if_pos (by omega)]
      · rw [if_neg hj, if_neg (by omega)]
section M3W
variable {E : CtlPost} {e : Env} {d : Bool} {acts : List Action} {s : State}
theorem m3_wp {c c2 c1 cc : ClassId} {k k2 k1 : Class} {t0 t1 type : FieldType} {n m q : Int32} (hk : s.vm.classes[c]? = some k) (hkind : k.kind = .array c2 t0) (href : t0.isReference = true)
    (hk2 : s.vm.classes[c2]? = some k2) (hkind2 : k2.kind = .array c1 t1) (href1 : t1.isReference = true) (hk1 : s.vm.classes[c1]? = some k1) (hkind1 : k1.kind = .array cc type) (hn : ¬ n < 0) (hm : ¬ m < 0) (hq0 : ¬ q < 0)
    (hl1 : ¬ n.toNatClampNeg > e.platform.arrayLengthLimit) (hh1 : ¬ n.toNatClampNeg * componentBytes t0 > e.platform.maxHeapBytes)
    (hl2 : ¬ m.toNatClampNeg > e.platform.arrayLengthLimit) (hh2 : ¬ m.toNatClampNeg * componentBytes t1 > e.platform.maxHeapBytes)
    (hl3 : ¬ q.toNatClampNeg > e.platform.arrayLengthLimit) (hh3 : ¬ q.toNatClampNeg * componentBytes type > e.platform.maxHeapBytes)
    (hdf : fits type (defaultValue type) = true) (hdd : (defaultValue type).isDefault = true)
    (hc : s.heap.size + 1 + n.toNatClampNeg * (m.toNatClampNeg + 1) ≤ e.platform.maxCells) (hs : s.slotsUsed + n.toNatClampNeg + n.toNatClampNeg * (m.toNatClampNeg + m.toNatClampNeg * q.toNatClampNeg) ≤ e.platform.maxSlots)
    {Q : Addr → Pre} (hq : ∀ d' acts', Q s.heap.size d' acts' (m3F s c c2 c1 n.toNatClampNeg m.toNatClampNeg q.toNatClampNeg (defaultValue type) n.toNatClampNeg)) :
    wp (multianewarray.make c [n, m, q]) Q E e d acts s := by
  have hfind : ([m, q].find? (· < 0)) = none := by simp [hm, hq0]
  rw [multianewarray.make]
  simp only [wp_bind', W.ite, hn, if_false, wp_pure', W.theClass, hk, hkind, Option.some.injEq, exists_eq_left']
  refine Jvm.Free.Multi.wp_newArray hk hkind hl1 hh1 (Jvm.Free.Multi.refFits href _ (Or.inl rfl)) rfl (by omega) (by have := Nat.zero_le (n.toNatClampNeg * (m.toNatClampNeg + m.toNatClampNeg * q.toNatClampNeg)); omega) ?_
  simp only [hfind]
  rw [ite_self, wp_bind', Std.Legacy.Range.forIn_eq_forIn_range']
  have hsz : ([:n.toNatClampNeg] : Std.Legacy.Range).size = n.toNatClampNeg := by simp [Std.Legacy.Range.size]
  rw [hsz]
  show wp (forIn (List.range' 0 n.toNatClampNeg 1) PUnit.unit _) _ E e d acts _
  refine wp_forIn_inv (fun rest s' => ∃ i, i ≤ n.toNatClampNeg ∧ rest = List.range' i (n.toNatClampNeg - i) ∧ s' = m3F s c c2 c1 n.toNatClampNeg m.toNatClampNeg q.toNatClampNeg (defaultValue type) i) _ _ ⟨0, Nat.zero_le _, rfl, rfl⟩ ?_ ?_
  · rintro x rest s' d' acts' Q' ⟨i, hi, hl, rfl⟩ hnext
    have hlt : i < n.toNatClampNeg := by
      rcases Nat.lt_or_ge i n.toNatClampNeg with h | h
      · exact h
      · rw [show n.toNatClampNeg - i = 0 from by omega] at hl; simp at hl
    obtain ⟨rfl, hrest⟩ : x = i ∧ rest = List.range' (i + 1) (n.toNatClampNeg - (i + 1)) := by
      rw [show n.toNatClampNeg - i = (n.toNatClampNeg - (i + 1)) + 1 from by omega, List.range'_succ] at hl
      exact ⟨(List.cons.inj hl).1, (List.cons.inj hl).2⟩
    obtain ⟨f1, f2, f3, f4⟩ := m3F_facts s c c2 c1 n.toNatClampNeg m.toNatClampNeg q.toNatClampNeg (defaultValue type) x
    obtain ⟨o1, o2, o3⟩ := m3O_facts c n.toNatClampNeg s.heap.size (m.toNatClampNeg + 1) x
    have hmul : x * (m.toNatClampNeg + m.toNatClampNeg * q.toNatClampNeg) + (m.toNatClampNeg + m.toNatClampNeg * q.toNatClampNeg) ≤ n.toNatClampNeg * (m.toNatClampNeg + m.toNatClampNeg * q.toNatClampNeg) := by
      have := Nat.mul_le_mul_right (m.toNatClampNeg + m.toNatClampNeg * q.toNatClampNeg) (show x + 1 ≤ n.toNatClampNeg from hlt)
      rw [Nat.succ_mul] at this; exact this
    have hmul2 : x * (m.toNatClampNeg + 1) + (m.toNatClampNeg + 1) ≤ n.toNatClampNeg * (m.toNatClampNeg + 1) := by
      have := Nat.mul_le_mul_right (m.toNatClampNeg + 1) (show x + 1 ≤ n.toNatClampNeg from hlt)
      rw [Nat.succ_mul] at this; exact this
    simp only [wp_bind']
    refine Jvm.Free.Multi.wp_make2 (by rw [f3]; exact hk2) hkind2 href1 (by rw [f3]; exact hk1) hkind1 hm hq0 hl2 hh2 hl3 hh3 hdf hdd (by rw [f1]; omega) (by rw [f4]; omega) (fun d2 acts2 => ?_)
    obtain ⟨a2, b2, d9, u2⟩ := Jvm.Free.Multi.fill_facts (m3F s c c2 c1 n.toNatClampNeg m.toNatClampNeg q.toNatClampNeg (defaultValue type) x) c2 c1 m.toNatClampNeg q.toNatClampNeg (defaultValue type) m.toNatClampNeg
    have hlt0 : s.heap.size < (m3F s c c2 c1 n.toNatClampNeg m.toNatClampNeg q.toNatClampNeg (defaultValue type) x).heap.size := by rw [f1]; omega
    have hold := (Jvm.Free.Multi.fill_old (m3F s c c2 c1 n.toNatClampNeg m.toNatClampNeg q.toNatClampNeg (defaultValue type) x) c2 c1 m.toNatClampNeg q.toNatClampNeg (defaultValue type) hlt0 m.toNatClampNeg).trans f2
    simp only [wp_bind', W.writeLoc, wp_pure']
    refine ⟨m3O c n.toNatClampNeg s.heap.size (m.toNatClampNeg + 1) x, hold, by rw [o2]; simp, by rw [o3]; exact hlt, ?_, hnext _ _ _ ⟨x + 1, hlt, hrest, ?_⟩⟩
    · rw [o1, o2]
      simp [State.fitsSlot, State.slotType?, d9, f3, hk, hkind, Jvm.Free.Multi.refFits href _ (Or.inr ⟨_, rfl⟩)]
    · rw [f1]; rfl
  · rintro s' d' acts' ⟨i, hi, hl, rfl⟩
    have hiN : i = n.toNatClampNeg := by
      rcases Nat.lt_or_ge i n.toNatClampNeg with h | h
      · rw [show n.toNatClampNeg - i = (n.toNatClampNeg - (i + 1)) + 1 from by omega, List.range'_succ] at hl; cases hl
      · omega
    subst hiN
    simp only [wp_pure']
    exact hq _ _
end M3W
section M3S
variable {p : Program} {l : Launch} {e : Env} {R : Room} {s : State} {m : MethodId} {args : Array Value} {below : List Frame} {meth : Method} {c : Code} {T : State} {locs : List Loc} {cells slots : Nat}
/-- every write of the making lies on new cells -/
def m3New (h0 : Nat) (locs locs1 : List Loc) : Prop := ∀ q ∈ locs1, q ∈ locs ∨ h0 ≤ q.base
theorem m2_stand (X : Stand p l e R s m args below meth c T locs cells slots) (cA comp : ClassId) (N M : Nat) (dv : Value) (i : Nat) :
    ∃ locs1, m3New T.heap.size locs locs1 ∧ Stand p l e R s m args below meth c (Jvm.Free.Multi.fill T cA comp N M dv i) locs1 (cells + 1 + i) (slots + N + i * M) :=
  ⟨_, fun q hq => by
    rcases List.mem_append.mp hq with h | h
    · exact Or.inl h
    · obtain ⟨z, -, hz⟩ := List.mem_map.mp h
      rw [← hz]
      exact Or.inr (Nat.le_refl _), X.filled cA comp N M dv i⟩
theorem m3_stand (X : Stand p l e R s m args below meth c T locs cells slots) (c3 c2 c1 : ClassId) (N M L : Nat) (dv : Value) :
    ∀ i, ∃ locs1, m3New T.heap.size locs locs1 ∧ Stand p l e R s m args below meth c (m3F T c3 c2 c1 N M L dv i) locs1 (cells + 1 + i * (M + 1)) (slots + N + i * (M + M * L))
  | 0 => by
    have h := X.pushed (m3O c3 N T.heap.size (M + 1) 0)
    rw [(m3O_facts c3 N T.heap.size (M + 1) 0).2.2] at h
    exact ⟨locs, fun q hq => Or.inl hq, by simpa [m3F] using h⟩
  | i + 1 => by
    obtain ⟨locs1, hl1, X1⟩ := m3_stand X c3 c2 c1 N M L dv i
    obtain ⟨f1, f2, f3, f4⟩ := m3F_facts T c3 c2 c1 N M L dv i
    obtain ⟨locs2, hl2, X2⟩ := m2_stand X1 c2 c1 M L dv M
    have hlt : T.heap.size < (m3F T c3 c2 c1 N M L dv i).heap.size := by omega
    have hcell := (Jvm.Free.Multi.fill_old (m3F T c3 c2 c1 N M L dv i) c2 c1 M L dv hlt M).trans f2
    have h := X2.stored hcell i (.ref (T.heap.size + 1 + i * (M + 1)))
    refine ⟨locs2 ++ [{ base := T.heap.size, slot := i }], fun q hq => ?_, ?_⟩
    rotate_left
    · have e2 : slots + N + (i + 1) * (M + M * L) = slots + N + i * (M + M * L) + M + M * L := by rw [Nat.succ_mul]; omega
      have e3 : cells + 1 + (i + 1) * (M + 1) = cells + 1 + i * (M + 1) + 1 + M := by rw [Nat.succ_mul]; omega
      rw [e2, e3]
      exact h
    · rcases List.mem_append.mp hq with h | h
      · rcases hl2 q h with h | h
        · exact hl1 q h
        · exact Or.inr (by omega)
      · rw [List.mem_singleton.mp h]
        exact Or.inr (Nat.le_refl _)

theorem m2_step (X : Stand p l e R s m args below meth c T locs cells slots) (hexec : p.tables.exec = Jvm.exec) {own nm : String} {index : Nat} {type t0 : FieldType} {cA comp cc : ClassId} {kA kC : Class}
    (hown : s.vm.findClass own = some m.cls) (hclink : (Cond.classLink own index nm).before args s = true) (hnm : s.vm.findClass nm = some cA)
    (hkA : s.vm.classes[cA]? = some kA) (hkindA : kA.kind = .array comp t0) (href : t0.isReference = true) (hkC : s.vm.classes[comp]? = some kC) (hkindC : kC.kind = .array cc type)
    {g : JFrame} (hg : g.method = m) (hdg : decode c.code g.pc = .ok (.multianewarray index 2, 4)) {n k : Int32} {rest : List Value} (hstack : g.stack = .int k :: .int n :: rest)
    (hn : ¬ n < 0) (hk : ¬ k < 0) (hb1 : n.toNatClampNeg * 8 ≤ 536870912) (hb2 : k.toNatClampNeg * 8 ≤ 536870912)
    (hdf : fits type (defaultValue type) = true) (hdd : (defaultValue type).isDefault = true)
    (hcells : cells + (1 + n.toNatClampNeg) ≤ R.cells) (hslots : slots + (n.toNatClampNeg + n.toNatClampNeg * k.toNatClampNeg) ≤ R.slots) :
    ∃ (vm₁ : Vm) (locs1 : List Loc), s.WarmedH vm₁ ∧ m3New T.heap.size locs locs1 ∧
      Stand p l e R s m args below meth c (Jvm.Free.Multi.fill (T.setVm vm₁) cA comp n.toNatClampNeg k.toNatClampNeg (defaultValue type) n.toNatClampNeg) locs1 (cells + 1 + n.toNatClampNeg) (slots + n.toNatClampNeg + n.toNatClampNeg * k.toNatClampNeg) ∧
      ∀ target, Steps p.tables e below ((Jvm.Free.Multi.fill (T.setVm vm₁) cA comp n.toNatClampNeg k.toNatClampNeg (defaultValue type) n.toNatClampNeg).setTop { g with pc := g.pc + 4, stack := .ref T.heap.size :: rest }) target →
        Steps p.tables e below (T.setTop g) target := by
  subst hg
  have hpl : e.platform.magicAccessors = ({} : Platform).magicAccessors := by rw [X.admits.platform]
  have hcb : ∀ t : FieldType, componentBytes t ≤ 8 := fun t => by cases t <;> exact Nat.le_of_ble_eq_true rfl
  obtain ⟨c0, hfc0, hcl⟩ := Cond.classLink_spec hown hclink e.platform hpl
  cases hnm.symm.trans hfc0
  obtain ⟨hg₁, hwarm₁, hready₁⟩ := State.classEntry (e := e) X.warmed hcl
  generalize T.vm.noted g.method.cls index (.cls cA) = vm₁ at hg₁ hwarm₁ hready₁
  have hal : s.vm.Alike vm₁ := hwarm₁.alike
  obtain ⟨kA₁, hkA₁, heA⟩ := hal.2.2 _ _ hkA
  obtain ⟨kC₁, hkC₁, heC⟩ := hal.2.2 _ _ hkC
  have hkindA₁ : kA₁.kind = .array comp t0 := by rw [heA]; exact hkindA
  have hkindC₁ : kC₁.kind = .array cc type := by rw [heC]; exact hkindC
  have X₁ := X.noted hwarm₁
  obtain ⟨hr1, hr2⟩ := X.roomAbove hcells hslots
  obtain ⟨locs1, hn1, XF⟩ := m2_stand X₁ cA comp n.toNatClampNeg k.toNatClampNeg (defaultValue type) n.toNatClampNeg
  refine ⟨vm₁, locs1, hwarm₁, hn1, XF, fun target hrest => ?_⟩
  have h81 := Nat.mul_le_mul_left n.toNatClampNeg (hcb t0)
  have h82 := Nat.mul_le_mul_left k.toNatClampNeg (hcb type)
  have hl1 : ¬ n.toNatClampNeg > e.platform.arrayLengthLimit := by rw [Launch.admits_arrayLengthLimit X.admits]; omega
  have hh1 : ¬ n.toNatClampNeg * componentBytes t0 > e.platform.maxHeapBytes := by rw [Launch.admits_maxHeapBytes X.admits]; omega
  have hl2 : ¬ k.toNatClampNeg > e.platform.arrayLengthLimit := by rw [Launch.admits_arrayLengthLimit X.admits]; omega
  have hh2 : ¬ k.toNatClampNeg * componentBytes type > e.platform.maxHeapBytes := by rw [Launch.admits_maxHeapBytes X.admits]; omega
  jvm_step X.here [hexec, hdg]
  simp only [multianewarray.sem, wp_bind', W.resolveClassAt_links (State.method?_setTop g X.here.top) hg₁]
  rw [W.popN, if_neg (by decide)]
  refine ⟨g, State.topJava?_setTop' (s := T.setVm vm₁) g X.here.top, [.int n, .int k], rest, rfl, hstack, ?_⟩
  simp only [List.mapM_cons, List.mapM_nil, wp_bind', wp_pure']
  refine Jvm.Free.Multi.wp_make2 hkA₁ hkindA₁ href hkC₁ hkindC₁ hn hk hl1 hh1 hl2 hh2 hdf hdd (by show T.heap.size + 1 + _ ≤ _; omega) (by show T.slotsUsed + _ + _ ≤ _; omega) (fun d' acts' => ?_)
  have eS : ((T.setTop g).setVm vm₁).setTop { g with stack := rest } = (T.setVm vm₁).setTop { g with stack := rest } := by
    show ((T.setVm vm₁).setTop g).setTop _ = _
    rw [State.setTop_setTop]
  rw [eS, Jvm.Free.Multi.fill_setTop]
  simp only [wp_bind', W.mark, W.pushRef, State.topJava?_setTop' _ XF.here.top, Option.some.injEq, exists_eq_left', State.setTop_setTop, State.heap_setTop]
  intro acts
  simp [jvm, XF.here.top]
  exact hrest
theorem m3_step (X : Stand p l e R s m args below meth c T locs cells slots) (hexec : p.tables.exec = Jvm.exec) {own nm : String} {index : Nat} {type t0 t1 : FieldType} {cA c2 c1 cc : ClassId} {kA kB kC : Class}
    (hown : s.vm.findClass own = some m.cls) (hclink : (Cond.classLink own index nm).before args s = true) (hnm : s.vm.findClass nm = some cA)
    (hkA : s.vm.classes[cA]? = some kA) (hkindA : kA.kind = .array c2 t0) (href : t0.isReference = true) (hkB : s.vm.classes[c2]? = some kB) (hkindB : kB.kind = .array c1 t1) (href1 : t1.isReference = true) (hkC : s.vm.classes[c1]? = some kC) (hkindC : kC.kind = .array cc type)
    {g : JFrame} (hg : g.method = m) (hdg : decode c.code g.pc = .ok (.multianewarray index 3, 4)) {n k q : Int32} {rest : List Value} (hstack : g.stack = .int q :: .int k :: .int n :: rest)
    (hn : ¬ n < 0) (hk : ¬ k < 0) (hq : ¬ q < 0) (hb1 : n.toNatClampNeg * 8 ≤ 536870912) (hb2 : k.toNatClampNeg * 8 ≤ 536870912) (hb3 : q.toNatClampNeg * 8 ≤ 536870912)
    (hdf : fits type (defaultValue type) = true) (hdd : (defaultValue type).isDefault = true)
    (hcells : cells + (1 + n.toNatClampNeg * (k.toNatClampNeg + 1)) ≤ R.cells) (hslots : slots + (n.toNatClampNeg + n.toNatClampNeg * (k.toNatClampNeg + k.toNatClampNeg * q.toNatClampNeg)) ≤ R.slots) :
    ∃ (vm₁ : Vm) (locs1 : List Loc), s.WarmedH vm₁ ∧ m3New T.heap.size locs locs1 ∧
      Stand p l e R s m args below meth c (m3F (T.setVm vm₁) cA c2 c1 n.toNatClampNeg k.toNatClampNeg q.toNatClampNeg (defaultValue type) n.toNatClampNeg) locs1 (cells + 1 + n.toNatClampNeg * (k.toNatClampNeg + 1)) (slots + n.toNatClampNeg + n.toNatClampNeg * (k.toNatClampNeg + k.toNatClampNeg * q.toNatClampNeg)) ∧
      ∀ target, Steps p.tables e below ((m3F (T.setVm vm₁) cA c2 c1 n.toNatClampNeg k.toNatClampNeg q.toNatClampNeg (defaultValue type) n.toNatClampNeg).setTop { g with pc := g.pc + 4, stack := .ref T.heap.size :: rest }) target →
        Steps p.tables e below (T.setTop g) target := by
  subst hg
  have hpl : e.platform.magicAccessors = ({} : Platform).magicAccessors := by rw [X.admits.platform]
  have hcb : ∀ t : FieldType, componentBytes t ≤ 8 := fun t => by cases t <;> exact Nat.le_of_ble_eq_true rfl
  obtain ⟨c0, hfc0, hcl⟩ := Cond.classLink_spec hown hclink e.platform hpl
  cases hnm.symm.trans hfc0
  obtain ⟨hg₁, hwarm₁, hready₁⟩ := State.classEntry (e := e) X.warmed hcl
  generalize T.vm.noted g.method.cls index (.cls cA) = vm₁ at hg₁ hwarm₁ hready₁
  have hal : s.vm.Alike vm₁ := hwarm₁.alike
  obtain ⟨kA₁, hkA₁, heA⟩ := hal.2.2 _ _ hkA
  obtain ⟨kB₁, hkB₁, heB⟩ := hal.2.2 _ _ hkB
  obtain ⟨kC₁, hkC₁, heC⟩ := hal.2.2 _ _ hkC
  have hkindA₁ : kA₁.kind = .array c2 t0 := by rw [heA]; exact hkindA
  have hkindB₁ : kB₁.kind = .array c1 t1 := by rw [heB]; exact hkindB
  have hkindC₁ : kC₁.kind = .array cc type := by rw [heC]; exact hkindC
  have X₁ := X.noted hwarm₁
  obtain ⟨hr1, hr2⟩ := X.roomAbove hcells hslots
  obtain ⟨locs1, hn1, XF⟩ := m3_stand X₁ cA c2 c1 n.toNatClampNeg k.toNatClampNeg q.toNatClampNeg (defaultValue type) n.toNatClampNeg
  refine ⟨vm₁, locs1, hwarm₁, hn1, XF, fun target hrest => ?_⟩
  have h81 := Nat.mul_le_mul_left n.toNatClampNeg (hcb t0)
  have h82 := Nat.mul_le_mul_left k.toNatClampNeg (hcb t1)
  have h83 := Nat.mul_le_mul_left q.toNatClampNeg (hcb type)
  have hl1 : ¬ n.toNatClampNeg > e.platform.arrayLengthLimit := by rw [Launch.admits_arrayLengthLimit X.admits]; omega
  have hh1 : ¬ n.toNatClampNeg * componentBytes t0 > e.platform.maxHeapBytes := by rw [Launch.admits_maxHeapBytes X.admits]; omega
  have hl2 : ¬ k.toNatClampNeg > e.platform.arrayLengthLimit := by rw [Launch.admits_arrayLengthLimit X.admits]; omega
  have hh2 : ¬ k.toNatClampNeg * componentBytes t1 > e.platform.maxHeapBytes := by rw [Launch.admits_maxHeapBytes X.admits]; omega
  have hl3 : ¬ q.toNatClampNeg > e.platform.arrayLengthLimit := by rw [Launch.admits_arrayLengthLimit X.admits]; omega
  have hh3 : ¬ q.toNatClampNeg * componentBytes type > e.platform.maxHeapBytes := by rw [Launch.admits_maxHeapBytes X.admits]; omega
  jvm_step X.here [hexec, hdg]
  simp only [multianewarray.sem, wp_bind', W.resolveClassAt_links (State.method?_setTop g X.here.top) hg₁]
  rw [W.popN, if_neg (by decide)]
  refine ⟨g, State.topJava?_setTop' (s := T.setVm vm₁) g X.here.top, [.int n, .int k, .int q], rest, rfl, hstack, ?_⟩
  simp only [List.mapM_cons, List.mapM_nil, wp_bind', wp_pure']
  refine m3_wp hkA₁ hkindA₁ href hkB₁ hkindB₁ href1 hkC₁ hkindC₁ hn hk hq hl1 hh1 hl2 hh2 hl3 hh3 hdf hdd (by show T.heap.size + 1 + _ ≤ _; omega) (by show T.slotsUsed + _ + _ ≤ _; omega) (fun d' acts' => ?_)
  have eS : ((T.setTop g).setVm vm₁).setTop { g with stack := rest } = (T.setVm vm₁).setTop { g with stack := rest } := by
    show ((T.setVm vm₁).setTop g).setTop _ = _
    rw [State.setTop_setTop]
  rw [eS, m3F_setTop]
  simp only [wp_bind', W.mark, W.pushRef, State.topJava?_setTop' _ XF.here.top, Option.some.injEq, exists_eq_left', State.setTop_setTop, State.heap_setTop]
  intro acts
  simp [jvm, XF.here.top]
  exact hrest
end M3S
/-! ===== the same in the world ===== -/
theorem m3O_eta (c : ClassId) (N h0 w : Nat) : ∀ i, m3O c N h0 w i = { cls := c, slots := (m3O c N h0 w i).slots, vm := .none }
  | 0 => rfl
  | i + 1 => by
    have e : m3O c N h0 w (i + 1) = (m3O c N h0 w i).setSlot i (.ref (h0 + 1 + i * w)) := rfl
    rw [e, m3O_eta c N h0 w i]
    rfl
theorem outerC_eta (c : ClassId) (N h0 : Nat) : ∀ i, Jvm.Free.Multi.outerC c N h0 i = { cls := c, slots := (Jvm.Free.Multi.outerC c N h0 i).slots, vm := .none }
  | 0 => rfl
  | i + 1 => by
    have e : Jvm.Free.Multi.outerC c N h0 (i + 1) = (Jvm.Free.Multi.outerC c N h0 i).setSlot i (.ref (h0 + 1 + i)) := rfl
    rw [e, outerC_eta c N h0 i]
    rfl
theorem m3O_arr (c : ClassId) (N h0 w : Nat) : m3O c N h0 w N = arrV c N (fun j => .ref (h0 + 1 + j * w)) := by
  obtain ⟨a, b, d⟩ := m3O_facts c N h0 w N
  have hs : (m3O c N h0 w N).slots = Array.ofFn (n := N) fun j => Value.ref (h0 + 1 + j.val * w) := by
    apply Array.ext_getElem?
    intro i
    by_cases hi : i < N
    · rw [m3O_slot c N h0 w N i hi, if_pos hi]
      simp [hi]
    · rw [Array.getElem?_eq_none (by rw [d]; omega), Array.getElem?_eq_none (by simp; omega)]
  rw [m3O_eta, hs]
  rfl
theorem outerC_arr (c : ClassId) (N h0 : Nat) : Jvm.Free.Multi.outerC c N h0 N = arrV c N (fun j => .ref (h0 + 1 + j)) := by
  obtain ⟨a, b, d⟩ := Jvm.Free.Multi.outerC_facts c N h0 N
  have hs : (Jvm.Free.Multi.outerC c N h0 N).slots = Array.ofFn (n := N) fun j => Value.ref (h0 + 1 + j.val) := by
    apply Array.ext_getElem?
    intro i
    by_cases hi : i < N
    · rw [Jvm.Free.Multi.outerC_slot c N h0 N i hi, if_pos hi]
      simp [hi]
    · rw [Array.getElem?_eq_none (by rw [d]; omega), Array.getElem?_eq_none (by simp; omega)]
  rw [outerC_eta, hs]
  rfl
/-- new entries of the world, at the addresses from n0 -/
def zxs (n0 n : Nat) (es : Nat → va_E) : va_W := (List.range n).map (fun j => (n0 + j, es j))
theorem zxs_at {ws : va_W} {n0 n : Nat} {es : Nat → va_E} {j : Nat} (hj : j < n) : (ws ++ zxs n0 n es)[ws.length + j]? = some (n0 + j, es j) := by
  rw [List.getElem?_append_right (by omega), show ws.length + j - ws.length = j by omega]
  unfold zxs
  rw [List.getElem?_map, List.getElem?_range hj]
  rfl
theorem zxs_of {n0 n : Nat} {es : Nat → va_E} {k : Nat} {q : Nat × va_E} (h : (zxs n0 n es)[k]? = some q) : k < n ∧ q = (n0 + k, es k) := by
  unfold zxs at h
  rw [List.getElem?_map] at h
  by_cases hk : k < n
  · rw [List.getElem?_range hk] at h
    cases h
    exact ⟨hk, rfl⟩
  · rw [List.getElem?_eq_none (by simp; omega)] at h
    cases h
theorem zHR_exts {K : ZK} {ws : va_W} {h : Hp} (hH : zHR K ws h) {n0 n : Nat} {es : Nat → va_E} {cs : Nat → AC} (hc : ∀ j, j < n → zCr K (ws ++ zxs n0 n es) (cs j) (es j)) : zHR K (ws ++ zxs n0 n es) (h.1 ++ (List.range n).map cs, h.2) := by
  refine ⟨by simp [zxs, hH.1], fun k c hk => ?_⟩
  by_cases hl : k < h.1.length
  · rw [List.getElem?_append_left hl] at hk
    obtain ⟨q, h1, h2⟩ := hH.2 k c hk
    exact ⟨q, by rw [List.getElem?_append_left (by rw [hH.1]; exact hl)]; exact h1, h2.mono (zex.app ws _)⟩
  · rw [List.getElem?_append_right (by omega)] at hk
    rw [List.getElem?_map] at hk
    by_cases hn : k - h.1.length < n
    · rw [List.getElem?_range hn] at hk
      cases hk
      refine ⟨(n0 + (k - h.1.length), es (k - h.1.length)), ?_, hc _ hn⟩
      · have := zxs_at (ws := ws) (n0 := n0) (es := es) hn
        rw [show ws.length + (k - h.1.length) = k by rw [hH.1]; omega] at this
        exact this
    · rw [List.getElem?_eq_none (by simp; omega)] at hk
      cases hk
section MUL
variable {p : Program} {l : Launch} {e : Env} {R : Room} {s : State} {m : MethodId} {args : Array Value} {below : List Frame} {meth : Method} {c : Code} {H : Heap} {locs : List Loc} {cells slots : Nat} {Q : State → Prop}
variable {cc : ByteArray} {pc : Nat} {lsC : Array Slot} {stC : List Value} {K : ZK} {ws : va_W} {st : Sk} {h h' : Hp} {y : Nat}
theorem z_exts (hP : va_P (zD K) zcl ws H) (hD : va_D (zA K) ws) (hS : va_S (zA K) s.heap H locs) (hba : zba K ≤ s.heap.size) {n : Nat} {es : Nat → va_E} {H1 : Heap} {locs1 : List Loc} (hsz : H.size ≤ H1.size) (hold : ∀ a, a < H.size → H1[a]? = H[a]?) (hat : ∀ j, j < n → va_at (zD K) zcl (H.size + j, es j) H1) (hlocs : m3New H.size locs locs1) :
    va_P (zD K) zcl (ws ++ zxs H.size n es) H1 ∧ va_D (zA K) (ws ++ zxs H.size n es) ∧ va_S (zA K) s.heap H1 locs1 := by
  have hlt : ∀ (k : Nat) (q : Nat × va_E), ws[k]? = some q → q.1 < H.size := fun k q hk => (hP k q hk).lt
  refine ⟨(hP.kept (fun k q hk => hold q.1 (hlt k q hk))).app (fun k q hk => ?_), ⟨fun i j q1 q2 h1 h2 he => ?_, fun k q hk => ?_⟩, Nat.le_trans hS.1 hsz, fun q h1 h2 => (hold q (Nat.lt_of_lt_of_le h1 hS.1)).trans (hS.2.1 q h1 h2), fun q hq => ?_⟩
  · obtain ⟨hk1, rfl⟩ := zxs_of hk
    exact hat k hk1
  · by_cases hi : i < ws.length
    · rw [List.getElem?_append_left hi] at h1
      by_cases hj : j < ws.length
      · rw [List.getElem?_append_left hj] at h2
        exact hD.1 i j _ _ h1 h2 he
      · rw [List.getElem?_append_right (by omega)] at h2
        obtain ⟨-, rfl⟩ := zxs_of h2
        have := hlt _ _ h1
        dsimp only at he
        omega
    · rw [List.getElem?_append_right (by omega)] at h1
      obtain ⟨-, rfl⟩ := zxs_of h1
      by_cases hj : j < ws.length
      · rw [List.getElem?_append_left hj] at h2
        have := hlt _ _ h2
        dsimp only at he
        omega
      · rw [List.getElem?_append_right (by omega)] at h2
        obtain ⟨-, rfl⟩ := zxs_of h2
        dsimp only at he
        omega
  · by_cases hi : k < ws.length
    · rw [List.getElem?_append_left hi] at hk
      exact hD.2 k q hk
    · rw [List.getElem?_append_right (by omega)] at hk
      obtain ⟨-, rfl⟩ := zxs_of hk
      exact zA_of hba _ (Nat.le_trans hS.1 (Nat.le_add_right _ _))
  · rcases hlocs q hq with h1 | h1
    · exact hS.2.2 q h1
    · exact zA_of hba _ (Nat.le_trans hS.1 h1)
def mz2 (K : ZK) (n0 j : Nat) : va_E := if j = 0 then .inl (zcA K 8, 2, .inr (.inr (.inr (.inr (fun i => some (n0 + 1 + i)))))) else .inl (zcA K 7, 52, .inr (.inr (.inr (.inr (fun _ => none)))))
def mc2 (b j : Nat) : AC := if j = 0 then cQ 3 ((List.range 2).map (fun i => some (b + 1 + i))) else cQ 2 (List.replicate 52 none)
theorem zmulT2 (h : Hp) : zmul h 2 52 none = (h.1 ++ (List.range 3).map (mc2 h.1.length), h.2) := rfl
def mz3 (K : ZK) (n0 j : Nat) : va_E := if j = 0 then .inl (zcA K 8, 2, .inr (.inr (.inr (.inr (fun i => some (n0 + 1 + i * 53)))))) else if (j - 1) % 53 = 0 then .inl (zcA K 7, 52, .inr (.inr (.inr (.inr (fun i => some (n0 + 1 + (j - 1) / 53 * 53 + 1 + i)))))) else .inl (zcA K 3, 27, .inr (.inl (fun _ => 0)))
def mc3 (b j : Nat) : AC := if j = 0 then cQ 3 ((List.range 2).map (fun i => some (b + 1 + i * 53))) else if (j - 1) % 53 = 0 then cQ 2 ((List.range 52).map (fun l => some (b + 1 + (j - 1) / 53 * 53 + 1 + l))) else cL (List.replicate 27 0)
theorem zmulT3 (h : Hp) : zmul h 2 52 (some 27) = (h.1 ++ (List.range 107).map (mc3 h.1.length), h.2) := rfl
theorem zcA8 (hK : va_K (zD K) zcl (ztys K) s) : s.vm.findClass "[[[J" = some (zcA K 8) := (hK.2 8 _ (ztys_at K (by omega))).2
theorem zJ_ok (hK : va_K (zD K) zcl (ztys K) s) : ∃ k cc, s.vm.classes[zcA K 3]? = some k ∧ k.kind = .array cc .long := by
  obtain ⟨-, k, hk, cm, hkk⟩ := (hK.2 3 _ (ztys_at K (by omega))).1 0 (fun _ => .null)
  exact ⟨k, cm, hk, hkk⟩
theorem o_mul2 (hx : p.tables.exec = Jvm.exec) (hb : c.code = cc) (hts : ∀ w ∈ zW, ∀ a, w.before a s = true) {o idx : Nat} (hown : s.vm.findClass (zcn o) = some m.cls) (hK : va_K (zD K) zcl (ztys K) s) (hAA : zAA K s) (hP : va_P (zD K) zcl ws H) (hD : va_D (zA K) ws) (hS : va_S (zA K) s.heap H locs) (hba : zba K ≤ s.heap.size) (hH : zHR K ws h) (hl : zclk o idx "[[[J" = true) (hcells : cells + 3 ≤ R.cells) (hslots : slots + 106 ≤ R.slots) (hd : decode cc pc = .ok (.multianewarray idx 2, 4)) (hV : zvs K ws (vI 52 :: vI 2 :: st) stC)
    (kk : ∀ (ws2 : va_W) (H1 : Heap) (locs1 : List Loc) stC2, zex ws ws2 → va_P (zD K) zcl ws2 H1 → va_D (zA K) ws2 → va_S (zA K) s.heap H1 locs1 → zHR K ws2 (zmul h 2 52 none) → zvs K ws2 (vR (some h.1.length) :: st) stC2 → W p l e R s m args below meth c H1 locs1 (cells + 3) (slots + 106) Q (F0 m (pc + 4) lsC stC2)) : W p l e R s m args below meth c H locs cells slots Q (F0 m pc lsC stC) := by
  obtain ⟨c1, stC1, rfl, h1, hV1⟩ := zvs_cons hV
  obtain ⟨c2, stC2, rfl, h2, hV2⟩ := zvs_cons hV1
  have h1 : c1 = .int 52 := h1
  have h2 : c2 = .int 2 := h2
  subst h1 h2
  obtain ⟨kA, kB, t0, a1, a2, a3, a4⟩ := hAA (8, 7) (by simp)
  obtain ⟨kB', kC, t1, b1, b2, b3, b4⟩ := hAA (7, 3) (by simp)
  have hdv : defaultValue t1 = .null := by revert b3; cases t1 <;> simp [FieldType.isReference, defaultValue]
  have e2 : (2 : Int32).toNatClampNeg = 2 := by decide
  have e52 : (52 : Int32).toNatClampNeg = 52 := by decide
  intro T hT X
  subst hT
  obtain ⟨vm₁, locs1, hwarm, hnew, XF, step⟩ := m2_step X hx (g := F0 m pc lsC (.int 52 :: .int 2 :: stC2)) (n := 2) (k := 52) (rest := stC2) hown (hts _ (zclk_ok hl) args) (zcA8 hK) a1 a2 a3 b1 b2 rfl (by rw [hb]; exact hd) rfl (by decide) (by decide) (by decide) (by decide) (Jvm.Free.Multi.refFits b3 _ (Or.inl hdv)) (by rw [hdv]; rfl) hcells hslots
  rw [e2, e52, hdv] at XF step
  obtain ⟨f1, f2, f3, f4⟩ := Jvm.Free.Multi.fill_facts (T.setVm vm₁) (zcA K 8) (zcA K 7) 2 52 .null 2
  have hold : ∀ a, a < T.heap.size → (Jvm.Free.Multi.fill (T.setVm vm₁) (zcA K 8) (zcA K 7) 2 52 .null 2).heap[a]? = T.heap[a]? := fun a ha => Jvm.Free.Multi.fill_old (T.setVm vm₁) (zcA K 8) (zcA K 7) 2 52 .null (a := a) ha 2
  have hat : ∀ j, j < 3 → va_at (zD K) zcl (T.heap.size + j, mz2 K T.heap.size j) (Jvm.Free.Multi.fill (T.setVm vm₁) (zcA K 8) (zcA K 7) 2 52 .null 2).heap := by
    intro j hj
    unfold mz2
    by_cases h0 : j = 0
    · subst h0
      rw [if_pos rfl]
      show (Jvm.Free.Multi.fill (T.setVm vm₁) (zcA K 8) (zcA K 7) 2 52 .null 2).heap[T.heap.size]? = some (vp_cell _ _)
      refine f2.trans ?_
      rw [outerC_arr, vp_cell_q]
      rfl
    · rw [if_neg h0]
      show (Jvm.Free.Multi.fill (T.setVm vm₁) (zcA K 8) (zcA K 7) 2 52 .null 2).heap[T.heap.size + j]? = some (vp_cell _ _)
      have := Jvm.Free.Multi.fill_inner (T.setVm vm₁) (zcA K 8) (zcA K 7) 2 52 .null 2 (j - 1) (by omega)
      rw [show (T.setVm vm₁).heap.size + 1 + (j - 1) = T.heap.size + j by show T.heap.size + 1 + (j - 1) = _; omega] at this
      refine this.trans ?_
      rw [vp_cell_q]
      exact congrArg some (arrV_new _ _ _)
  obtain ⟨hP1, hD1, hS1⟩ := z_exts hP hD hS hba (n := 3) (es := mz2 K T.heap.size) (locs1 := locs1) (by rw [f1]; show T.heap.size ≤ T.heap.size + 1 + 2; omega) hold hat hnew
  have hH1 := zHR_exts hH (n0 := T.heap.size) (n := 3) (es := mz2 K T.heap.size) (cs := mc2 h.1.length) (fun j hj => by
    unfold mz2 mc2
    by_cases h0 : j = 0
    · rw [if_pos h0, if_pos h0]
      refine ⟨by omega, fun i => some (T.heap.size + 1 + i), by simp, fun i o ho => ?_⟩
      rw [List.getElem?_map] at ho
      by_cases hi : i < 2
      · rw [List.getElem?_range hi] at ho
        cases ho
        refine ⟨(T.heap.size + (1 + i), mz2 K T.heap.size (1 + i)), ?_, by simp [Nat.add_assoc]⟩
        · rw [← hH.1, Nat.add_assoc]
          exact zxs_at (es := mz2 K T.heap.size) (by omega)
      · rw [List.getElem?_eq_none (by simp; omega)] at ho
        cases ho
    · rw [if_neg h0, if_neg h0]
      exact zCr_nul (t := 2) (by omega) 52)
  rw [← zmulT2] at hH1
  obtain ⟨t, g1, g2⟩ := kk _ _ locs1 (.ref T.heap.size :: stC2) (zex.app ws _) hP1 hD1 hS1 hH1 ⟨⟨(T.heap.size + 0, mz2 K T.heap.size 0), by rw [← hH.1]; exact zxs_at (j := 0) (es := mz2 K T.heap.size) (n := 3) (by omega), rfl⟩, hV2.mono (zex.app ws _)⟩ _ rfl XF
  exact ⟨t, step t g1, g2⟩
theorem o_mul3 (hx : p.tables.exec = Jvm.exec) (hb : c.code = cc) (hts : ∀ w ∈ zW, ∀ a, w.before a s = true) {o idx : Nat} (hown : s.vm.findClass (zcn o) = some m.cls) (hK : va_K (zD K) zcl (ztys K) s) (hAA : zAA K s) (hP : va_P (zD K) zcl ws H) (hD : va_D (zA K) ws) (hS : va_S (zA K) s.heap H locs) (hba : zba K ≤ s.heap.size) (hH : zHR K ws h) (hl : zclk o idx "[[[J" = true) (hcells : cells + 107 ≤ R.cells) (hslots : slots + 2914 ≤ R.slots) (hd : decode cc pc = .ok (.multianewarray idx 3, 4)) (hV : zvs K ws (vI 27 :: vI 52 :: vI 2 :: st) stC)
    (kk : ∀ (ws2 : va_W) (H1 : Heap) (locs1 : List Loc) stC2, zex ws ws2 → va_P (zD K) zcl ws2 H1 → va_D (zA K) ws2 → va_S (zA K) s.heap H1 locs1 → zHR K ws2 (zmul h 2 52 (some 27)) → zvs K ws2 (vR (some h.1.length) :: st) stC2 → W p l e R s m args below meth c H1 locs1 (cells + 107) (slots + 2914) Q (F0 m (pc + 4) lsC stC2)) : W p l e R s m args below meth c H locs cells slots Q (F0 m pc lsC stC) := by
  obtain ⟨c0, stC0, rfl, h0, hV0⟩ := zvs_cons hV
  obtain ⟨c1, stC1, rfl, h1, hV1⟩ := zvs_cons hV0
  obtain ⟨c2, stC2, rfl, h2, hV2⟩ := zvs_cons hV1
  have h0 : c0 = .int 27 := h0
  have h1 : c1 = .int 52 := h1
  have h2 : c2 = .int 2 := h2
  subst h0 h1 h2
  obtain ⟨kA, kB, t0, a1, a2, a3, a4⟩ := hAA (8, 7) (by simp)
  obtain ⟨kB', kC, t1, b1, b2, b3, b4⟩ := hAA (7, 3) (by simp)
  obtain ⟨kJ, cj, j1, j2⟩ := zJ_ok hK
  have e2 : (2 : Int32).toNatClampNeg = 2 := by decide
  have e52 : (52 : Int32).toNatClampNeg = 52 := by decide
  have e27 : (27 : Int32).toNatClampNeg = 27 := by decide
  intro T hT X
  subst hT
  obtain ⟨vm₁, locs1, hwarm, hnew, XF, step⟩ := m3_step X hx (g := F0 m pc lsC (.int 27 :: .int 52 :: .int 2 :: stC2)) (n := 2) (k := 52) (q := 27) (rest := stC2) hown (hts _ (zclk_ok hl) args) (zcA8 hK) a1 a2 a3 b1 b2 b3 j1 j2 rfl (by rw [hb]; exact hd) rfl (by decide) (by decide) (by decide) (by decide) (by decide) (by decide) rfl rfl hcells hslots
  rw [e2, e52, e27] at XF step
  obtain ⟨f1, f2, f3, f4⟩ := m3F_facts (T.setVm vm₁) (zcA K 8) (zcA K 7) (zcA K 3) 2 52 27 (defaultValue .long) 2
  have hold : ∀ a, a < T.heap.size → (m3F (T.setVm vm₁) (zcA K 8) (zcA K 7) (zcA K 3) 2 52 27 (defaultValue .long) 2).heap[a]? = T.heap[a]? := fun a ha => m3F_old (T.setVm vm₁) (zcA K 8) (zcA K 7) (zcA K 3) 2 52 27 (defaultValue .long) (a := a) ha 2
  have hat : ∀ j, j < 107 → va_at (zD K) zcl (T.heap.size + j, mz3 K T.heap.size j) (m3F (T.setVm vm₁) (zcA K 8) (zcA K 7) (zcA K 3) 2 52 27 (defaultValue .long) 2).heap := by
    intro j hj
    unfold mz3
    by_cases h0 : j = 0
    · subst h0
      rw [if_pos rfl]
      show (m3F (T.setVm vm₁) (zcA K 8) (zcA K 7) (zcA K 3) 2 52 27 (defaultValue .long) 2).heap[T.heap.size]? = some (vp_cell _ _)
      refine f2.trans ?_
      rw [m3O_arr, vp_cell_q]
      rfl
    · rw [if_neg h0]
      by_cases h5 : (j - 1) % 53 = 0
      · rw [if_pos h5]
        show (m3F (T.setVm vm₁) (zcA K 8) (zcA K 7) (zcA K 3) 2 52 27 (defaultValue .long) 2).heap[T.heap.size + j]? = some (vp_cell _ _)
        have := m3F_mid (T.setVm vm₁) (zcA K 8) (zcA K 7) (zcA K 3) 2 52 27 (defaultValue .long) 2 ((j - 1) / 53) (by omega)
        rw [show (T.setVm vm₁).heap.size = T.heap.size from rfl, show T.heap.size + 1 + (j - 1) / 53 * (52 + 1) = T.heap.size + j by omega] at this
        refine this.trans ?_
        rw [outerC_arr, vp_cell_q, show T.heap.size + 1 + (j - 1) / 53 * 53 + 1 = T.heap.size + j + 1 by omega]
        rfl
      · rw [if_neg h5]
        show (m3F (T.setVm vm₁) (zcA K 8) (zcA K 7) (zcA K 3) 2 52 27 (defaultValue .long) 2).heap[T.heap.size + j]? = some (vp_cell _ _)
        have := m3F_in (T.setVm vm₁) (zcA K 8) (zcA K 7) (zcA K 3) 2 52 27 (defaultValue .long) 2 ((j - 1) / 53) ((j - 1) % 53 - 1) (by omega) (by omega)
        rw [show (T.setVm vm₁).heap.size = T.heap.size from rfl, show T.heap.size + 1 + (j - 1) / 53 * (52 + 1) + 1 + ((j - 1) % 53 - 1) = T.heap.size + j by omega] at this
        refine this.trans ?_
        rw [vp_cell_l]
        exact congrArg some (arrV_new _ _ _)
  obtain ⟨hP1, hD1, hS1⟩ := z_exts hP hD hS hba (n := 107) (es := mz3 K T.heap.size) (locs1 := locs1) (by rw [f1]; show T.heap.size ≤ T.heap.size + 1 + 2 * (52 + 1); omega) hold hat hnew
  have hH1 := zHR_exts hH (n0 := T.heap.size) (n := 107) (es := mz3 K T.heap.size) (cs := mc3 h.1.length) (fun j hj => by
    unfold mz3 mc3
    by_cases h0 : j = 0
    · rw [if_pos h0, if_pos h0]
      refine ⟨by omega, fun i => some (T.heap.size + 1 + i * 53), by simp, fun i o ho => ?_⟩
      rw [List.getElem?_map] at ho
      by_cases hi : i < 2
      · rw [List.getElem?_range hi] at ho
        cases ho
        refine ⟨(T.heap.size + (1 + i * 53), mz3 K T.heap.size (1 + i * 53)), ?_, by simp [Nat.add_assoc]⟩
        · rw [← hH.1, Nat.add_assoc]
          exact zxs_at (es := mz3 K T.heap.size) (by omega)
      · rw [List.getElem?_eq_none (by simp; omega)] at ho
        cases ho
    · rw [if_neg h0, if_neg h0]
      by_cases h5 : (j - 1) % 53 = 0
      · rw [if_pos h5, if_pos h5]
        refine ⟨by omega, fun i => some (T.heap.size + 1 + (j - 1) / 53 * 53 + 1 + i), by simp, fun i o ho => ?_⟩
        rw [List.getElem?_map] at ho
        by_cases hi : i < 52
        · rw [List.getElem?_range hi] at ho
          cases ho
          refine ⟨(T.heap.size + (1 + (j - 1) / 53 * 53 + 1 + i), mz3 K T.heap.size (1 + (j - 1) / 53 * 53 + 1 + i)), ?_, by simp [Nat.add_assoc]⟩
          · have := zxs_at (ws := ws) (n0 := T.heap.size) (n := 107) (es := mz3 K T.heap.size) (j := 1 + (j - 1) / 53 * 53 + 1 + i) (by omega)
            rw [hH.1] at this
            rw [show h.1.length + 1 + (j - 1) / 53 * 53 + 1 + i = h.1.length + (1 + (j - 1) / 53 * 53 + 1 + i) by omega]
            exact this
        · rw [List.getElem?_eq_none (by simp; omega)] at ho
          cases ho
      · rw [if_neg h5, if_neg h5]
        exact zarr_ok (t := 3) (by omega) 27)
  rw [← zmulT3] at hH1
  obtain ⟨t, g1, g2⟩ := kk _ _ locs1 (.ref T.heap.size :: stC2) (zex.app ws _) hP1 hD1 hS1 hH1 ⟨⟨(T.heap.size + 0, mz3 K T.heap.size 0), by rw [← hH.1]; exact zxs_at (j := 0) (es := mz3 K T.heap.size) (n := 107) (by omega), rfl⟩, hV2.mono (zex.app ws _)⟩ _ rfl XF
  exact ⟨t, step t g1, g2⟩
theorem zmul_sz (h : Hp) : (zCn (zmul h 2 52 none) = zCn h + 3 ∧ zSz (zmul h 2 52 none) = zSz h + 106) ∧ zCn (zmul h 2 52 (some 27)) = zCn h + 107 ∧ zSz (zmul h 2 52 (some 27)) = zSz h + 2914 := by
  have e1 : ((List.range 3).map (mc2 h.1.length)).map zszc = 2 :: List.replicate 2 52 := rfl
  have e2 : ((List.range 107).map (mc3 h.1.length)).map zszc = 2 :: (52 :: List.replicate 52 27) ++ (52 :: List.replicate 52 27) := rfl
  rw [zmulT2, zmulT3]
  simp only [zCn, zSz, List.map_append, List.sum_append, e1, e2, List.length_append, List.length_map, List.length_range]
  refine ⟨⟨by omega, ?_⟩, by omega, ?_⟩
  · rw [show (2 :: List.replicate 2 52 : List Nat).sum = 106 from rfl]; omega
  · rw [show (2 :: (52 :: List.replicate 52 27) : List Nat).sum = 1458 from rfl, show (52 :: List.replicate 52 27 : List Nat).sum = 1456 from rfl]; omega
end MUL
