/-! calls by contract, and the end of a method -/
def zFC (K : ZK) (l : Launch) (y : Nat) (p : Program) (R : Room) (s : State) (m : MethodId) (meth : Method) (c : Code) : Prop :=
  y < 296 ∧ p.tables.exec = Jvm.exec ∧ c.code = zby y ∧ meth.sig.returnType = zrt y ∧ c.maxLocals = zmxl y ∧ s.vm.findClass (zcn (zow y)) = some m.cls ∧ meth.locks = false ∧ (y < 295 → meth.name = (zyn y).name) ∧ (y < 295 → c.exceptionTable.toList = tableOf (zhh y)) ∧ zCX K s ∧ 6 + zdep y ≤ R.frames ∧ 130 + 80 * zdep y ≤ R.locals ∧ l.stackTraces = false
/-- a run of n steps from any place of any frame is the machine's -/
def zBody (K : ZK) (l : Launch) (n : Nat) : Prop := ∀ (y : Nat) (p : Program) (e : Env) (R : Room) (s : State) (m : MethodId) (args : Array Value) (below : List Frame) (meth : Method) (c : Code) (code : List AI) (ls : Lc) (st : Sk) (h h0 : Hp) (res : Rs) (lsC : Array Slot) (stC : List Value) (H : Heap) (locs : List Loc) (cells slots : Nat) (ws ws0 : va_W),
  zrun (zsc K) zprog zmxl zfks n y code ls st h = some res → zckB y code = true → code.all (zckQ1 y) = true → zFC K l y p R s m meth c → (y < 295 ∨ ∃ v, res.1 = .inl v) →
  va_K (zD K) zcl (ztys K) s → va_P (zD K) zcl ws H → va_D (zA K) ws → va_S (zA K) s.heap H locs → zHR K ws h → zLR K ws ls lsC (zmxl y) → zvs K ws st stC → zex ws0 ws →
  cells + zCn h0 = zCn h → slots + zSz h0 = zSz h → zCn res.2 ≤ R.cells + zCn h0 → zSz res.2 ≤ R.slots + zSz h0 →
  W p l e R s m args below meth c H locs cells slots (vx_MQ below (zQ K ws0 res) (zX K ws0 res) args s (zCn res.2 - zCn h0) (zSz res.2 - zSz h0) (zA K)) (F0 m (hdp code) lsC stC)
set_option maxRecDepth 100000 in
theorem zhd0 : (List.range 296).all (fun y => hdp (zprog y 0) == 0) = true := by decide +kernel
theorem zlay_sl {K : ZK} {ws : va_W} : ∀ {as : List AV} {cs : List Value}, zvs K ws as cs → (zlay as).length = (lg_sl cs).length
  | [], [], _ => rfl
  | v :: as, c :: cs, h => by
    have ih := zlay_sl h.2
    have hc := h.1.cat
    unfold zlay
    by_cases hw : zwide v = true
    · rw [if_pos hw] at hc ⊢
      simp [lg_sl, hc, ih]
    · rw [if_neg hw] at hc ⊢
      simp [lg_sl, hc, ih]
  | [], _ :: _, h => h.elim
  | _ :: _, [], h => h.elim
theorem zlay_at {K : ZK} {ws : va_W} : ∀ {as : List AV} {cs : List Value} (i : Nat), zvs K ws as cs → ∀ (j : Nat) (v : AV), (zlay as)[j]? = some (some v) → ∃ c, zvr K ws v c ∧ (i + j, c) ∈ lv_args i cs
  | [], [], i, _, j, v, hj => by simp [zlay] at hj
  | w :: as, c :: cs, i, h, j, v, hj => by
    have hc := h.1.cat
    unfold zlay at hj
    unfold lv_args
    by_cases hw : zwide w = true
    · rw [if_pos hw] at hj hc
      rw [if_pos hc]
      match j, hj with
      | 0, hj =>
        simp at hj
        subst hj
        exact ⟨c, h.1, by simp⟩
      | 1, hj => simp at hj
      | j + 2, hj =>
        simp at hj
        obtain ⟨d, h1, h2⟩ := zlay_at (i + 2) h.2 j v hj
        exact ⟨d, h1, List.mem_cons_of_mem _ (by rw [show i + (j + 2) = i + 2 + j by omega]; exact h2)⟩
    · rw [if_neg hw] at hj hc
      rw [if_neg (by rw [hc]; decide)]
      match j, hj with
      | 0, hj =>
        simp at hj
        subst hj
        exact ⟨c, h.1, by simp⟩
      | j + 1, hj =>
        simp at hj
        obtain ⟨d, h1, h2⟩ := zlay_at (i + 1) h.2 j v hj
        exact ⟨d, h1, List.mem_cons_of_mem _ (by rw [show i + (j + 1) = i + 1 + j by omega]; exact h2)⟩
  | [], _ :: _, _, h, _, _, _ => h.elim
  | _ :: _, [], _, h, _, _, _ => h.elim
theorem zent_ok {K : ZK} {ws : va_W} {y : Nat} {as : List AV} {cs : List Value} (h : zvs K ws as cs) (hl : (zlay as).length ≤ zmxl y) : zLR K ws (zent zmxl y as) ((lg_sl cs ++ List.replicate (zmxl y - (lg_sl cs).length) Slot.unset).toArray) (zmxl y) := by
  have e := zlay_sl h
  refine ⟨by simp [zent]; omega, lv_args 0 cs, lv_entry cs (by omega), fun j v hj => ?_⟩
  unfold zent at hj
  by_cases hjl : j < (zlay as).length
  · rw [List.getElem?_append_left hjl] at hj
    obtain ⟨c, h1, h2⟩ := zlay_at 0 h j v hj
    exact ⟨c, h1, by simpa using h2⟩
  · rw [List.getElem?_append_right (by omega), List.getElem?_replicate] at hj
    split at hj <;> cases hj
theorem zcn_le {h h0 h1 : Hp} (hl : zle h0 h) (h2 : zle h h1) : zCn h - zCn h0 ≤ zCn h1 - zCn h0 ∧ zSz h - zSz h0 ≤ zSz h1 - zSz h0 := by
  obtain ⟨a1, a2⟩ := hl
  obtain ⟨b1, b2⟩ := h2
  omega
section CONTRACT
variable {K : ZK} {l : Launch} {n : Nat}
theorem zws_all {y : Nat} (hy : y < 295) : ∀ w ∈ zws y, w ∈ zW := fun w hw => by
  rcases List.mem_cons.mp hw with rfl | h
  · exact zcw_mem hy
  · exact h
/-- a method's contract, out of the runs of n steps -/
theorem zMet_of (hB : zBody K l n) (hst : l.stackTraces = false) {y : Nat} (hy : y < 295) {as : List AV} {ws : va_W} {h : Hp} {res : Rs} (hlay : (zlay as).length ≤ zmxl y) (hr : zrun (zsc K) zprog zmxl zfks n y (zprog y 0) (zent zmxl y as) [] h = some res) :
    vx_Met l (zyn y) (zws y) (zRm y (zCn res.2 - zCn h) (zSz res.2 - zSz h)) (zPc K as ws h) (zQ K ws res) (zX K ws res) (zCn res.2 - zCn h) (zSz res.2 - zSz h) (zA K) := by
  have hz := zrun_le _ _ _ _ _ _ _ hr
  have hbk := zQ_block (y := y) (L := 0) (by omega)
  have hd0 : hdp (zprog y 0) = 0 := by
    have := List.all_eq_true.mp zhd0 y (List.mem_range.mpr (by omega))
    simpa using this
  obtain ⟨m1, m2, m3, m4, m5, m6, m7, m8, m9⟩ := zM_ok hy
  have body : ∀ p e s m args below meth c s₁ (maxL : Nat), BodyLoose p l (zyn y) (headSpec (zws y) (zRm y (zCn res.2 - zCn h) (zSz res.2 - zSz h))) (zby y) maxL (zrt y) e s m args below meth c s₁ → c.maxLocals = zmxl y → c.exceptionTable.toList = tableOf (zhh y) → zPc K as ws h args s →
      W p l e (zRm y (zCn res.2 - zCn h) (zSz res.2 - zSz h)) s m args below meth c s.heap [] 0 0 (vx_MQ below (zQ K ws res) (zX K ws res) args s (zCn res.2 - zCn h) (zSz res.2 - zSz h) (zA K)) (entryFrame m args (zmxl y)) := by
    intro p e s m args below meth c s₁ maxL B hml htab ⟨cs, hcs, hV, hP, hK, hD, hH, hCX⟩
    subst hcs
    rw [lg_entry_eq]
    have hown : s.vm.findClass (zcn (zow y)) = some m.cls := by rw [m8]; exact findClass_of_methodNamed B.named
    have hFC : zFC K l y p (zRm y (zCn res.2 - zCn h) (zSz res.2 - zSz h)) s m meth c := ⟨by omega, B.exec, B.bytes, B.returns, hml, hown, B.notSynchronized, fun _ => (name_of_methodNamed B.named B.method).1, fun _ => htab, hCX, Nat.le_refl _, Nat.le_refl _, hst⟩
    have k := hB y p e (zRm y (zCn res.2 - zCn h) (zSz res.2 - zSz h)) s m cs.toArray below meth c (zprog y 0) _ [] h h res _ [] s.heap [] 0 0 ws ws hr hbk.1 hbk.2 hFC (.inl hy) hK hP hD va_S.rf hH (zent_ok hV hlay) trivial (zex.rf ws) (by omega) (by omega) (by show _ ≤ (zCn res.2 - zCn h) + _; omega) (by show _ ≤ (zSz res.2 - zSz h) + _; omega)
    rw [hd0] at k
    exact k
  by_cases hh : zhh y = []
  · have hw : zws y = Cond.code (zyn y) (zby y) (zmxl y) (zrt y) :: zW := by unfold zws zcw; rw [if_pos hh]
    refine vx_ofW (cc := zby y) (maxL := zmxl y) (ret := zrt y) m7 hw (fun p e s m args below meth c s₁ B hml ht hv => body p e s m args below meth c s₁ _ B hml ?_ hv)
    rw [hh]
    cases hl : c.exceptionTable.toList with
    | nil => rfl
    | cons x t => exact (ht x (by rw [hl]; exact List.mem_cons_self)).elim
  · have hw : zws y = Cond.codeWith (zyn y) (zby y) (zmxl y) (zrt y) (zhh y) :: zW := by unfold zws zcw; rw [if_neg hh]
    refine vx_ofWH (cc := zby y) (maxL := zmxl y) (ret := zrt y) (hh := zhh y) m7 hw (fun p e s m args below meth c s₁ B hml hv => body p e s m args below meth c s₁ _ B hml ?_ hv)
    exact vx_table (x := zyn y) B (atoms_spec (ws := zws y) B.pre _ (by rw [hw]; exact List.mem_cons_self))
end CONTRACT
