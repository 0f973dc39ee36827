/-! what every frame has from the start of the run, and a method's contract by its picture -/
def zszc (c : AC) : Nat := match c with
  | .inl (_, fs) => fs.length
  | .inr (.inl (_, xs)) => xs.length
  | .inr (.inr (.inl xs)) => xs.length
  | .inr (.inr (.inr (.inl xs))) => xs.length
  | .inr (.inr (.inr (.inr (_, xs)))) => xs.length
def zCn (h : Hp) : Nat := h.1.length + h.2
def zSz (h : Hp) : Nat := (h.1.map zszc).sum + 6 * h.2
/-- the arrays of arrays: what their components are -/
def zAA (K : ZK) (s : State) : Prop := ∀ q ∈ ([(6, 0), (7, 3), (8, 7)] : List (Nat × Nat)), ∃ (k kc : Class) (t : FieldType), s.vm.classes[zcA K q.1]? = some k ∧ k.kind = .array (zcA K q.2) t ∧ t.isReference = true ∧ s.vm.classes[zcA K q.2]? = some kc
theorem zAA.moved {K : ZK} {u U : State} (hvm : u.vm.Alike U.vm) (h : zAA K u) : zAA K U := by
  intro q hq
  obtain ⟨k, kc, t, h1, h2, h3, h4⟩ := h q hq
  obtain ⟨k', hk', he⟩ := hvm.2.2 _ _ h1
  obtain ⟨kc', hkc', -⟩ := hvm.2.2 _ _ h4
  exact ⟨k', kc', t, hk', by rw [he]; exact h2, h3, hkc'⟩
def zCX (K : ZK) (s : State) : Prop :=
  (∀ w ∈ zW, ∀ a, w.before a s = true) ∧ (∀ q ∈ zncL, va_Nc q.1 q.2 s) ∧ (∀ q ∈ zstrL, ∃ sa, vk_R q.1 q.2.1 q.2.2 sa s) ∧
  vx_Zq Bundle.tN "UNASSIGNED_STACK" Bundle.steD (zA K) s s.heap ∧ vx_Zq Bundle.tN "SUPPRESSED_SENTINEL" Bundle.listD (zA K) s s.heap ∧
  va_Z "java/util/ArrayList" "DEFAULTCAPACITY_EMPTY_ELEMENTDATA" "[Ljava/lang/Object;" (.ref (za0 K)) (zA K) s s.heap ∧
  (∃ cell, s.heap[za0 K]? = some cell ∧ s.isArrayOf cell (.object "java/lang/Object") ∧ cell.slots.size = 0) ∧ ¬ zA K (za0 K) ∧
  va_X (zsb K) (zsc K).length (fun j => Int32.ofInt ((zsc K).getD j 0)) s s.heap ∧ zsb K < s.heap.size ∧ ¬ zA K (zsb K) ∧
  zAA K s ∧ zba K ≤ s.heap.size ∧ ∃ mi, va_Mi "[Ljava/lang/Object;" mi s
theorem zCX.moved {K : ZK} {s U : State} {H : Heap} {locs : List Loc} (h : zCX K s) (hW : s.WarmedH U.vm) (hU : U.heap = H) (hS : va_S (zA K) s.heap H locs) : zCX K U := by
  obtain ⟨h1, h2, h3, h4, h5, h6, ⟨cell, h7, h8, h9⟩, h10, h11, h12, h13, h14, h15, mi, h16⟩ := h
  have hal : s.vm.Alike U.vm := hW.alike
  have ha0 : za0 K < s.heap.size := (Array.getElem?_eq_some_iff.mp h7).1
  refine ⟨fun w hw a => zgood_mv (List.mem_filter.mp hw).2 hW (h1 w hw a), fun q hq => va_Nc.moved hal (h2 q hq), fun q hq => ?_, ?_, ?_, ?_, ⟨cell, ?_, State.isArrayOf_alike hal h8, h9⟩, h10, ?_, ?_, h13, h14.moved hal, ?_, mi, va_Mi.moved hal h16⟩
  · obtain ⟨sa, h⟩ := h3 q hq
    exact ⟨sa, vk_R.warm hW h⟩
  · rw [hU]; exact vx_Zq.moved hal (h4.kept hS.2.1)
  · rw [hU]; exact vx_Zq.moved hal (h5.kept hS.2.1)
  · rw [hU]; exact va_Z.moved hal (h6.kept hS.2.1)
  · rw [hU, hS.2.1 _ ha0 h10]; exact h7
  · rw [hU]; exact va_X.moved hal (h11.kept (hS.2.1 _ h12 h13))
  · rw [hU]; exact Nat.lt_of_lt_of_le h12 hS.1
  · rw [hU]; exact Nat.le_trans h15 hS.1
def zRm (y mc ms : Nat) : Room := { frames := 6 + zdep y, cells := mc, slots := ms, locals := 130 + 80 * zdep y }
/-- a method's start: its arguments, the world and its picture -/
def zPc (K : ZK) (as : List AV) (ws : va_W) (h : Hp) : Array Value → State → Prop := fun v U => ∃ cs : List Value, v = cs.toArray ∧ zvs K ws as cs ∧ va_P (zD K) zcl ws U.heap ∧ va_K (zD K) zcl (ztys K) U ∧ va_D (zA K) ws ∧ zHR K ws h ∧ zCX K U
def zro (K : ZK) (ws : va_W) (r : Option AV ⊕ Nat) (vo : Option Value) : Prop := match r with
  | .inl none => vo = none
  | .inl (some v) => ∃ c, vo = some c ∧ zvr K ws v c
  | .inr _ => False
def zQ (K : ZK) (ws0 : va_W) (res : Rs) : Array Value → State → Outcome → State → Prop := fun _ st o t => ∃ (vo : Option Value) (ws2 : va_W), o = .returned vo ∧ zro K ws2 res.1 vo ∧ va_P (zD K) zcl ws2 t.heap ∧ va_D (zA K) ws2 ∧ zHR K ws2 res.2 ∧ zex ws0 ws2 ∧ va_F (zA K) st t
def zX (K : ZK) (ws0 : va_W) (res : Rs) : String → State → State → Prop := fun E st t => ∃ (ci : Nat) (ws2 : va_W), res.1 = .inr ci ∧ E = zcn ci ∧ va_P (zD K) zcl ws2 t.heap ∧ va_D (zA K) ws2 ∧ zHR K ws2 res.2 ∧ zex ws0 ws2 ∧ va_F (zA K) st t
theorem zPc_blind (K : ZK) (as : List AV) (ws : va_W) (h : Hp) : FrameBlind (zPc K as ws h) := by
  intro a U g mk ⟨cs, h1, h2, h3, h4, h5, h6, h7⟩
  exact ⟨cs, h1, h2, h3, va_K.moved (u := U) (U := U.calling g mk a) (Vm.Alike.refl U.vm) h4, h5, h6, h7.moved (State.WarmedH.refl U) rfl va_S.rf⟩
section CALL
variable {p : Program} {l : Launch} {e : Env} {R : Room} {s : State} {m : MethodId} {args : Array Value} {below : List Frame} {meth : Method} {c : Code} {H : Heap} {locs : List Loc} {cells slots : Nat} {Q : State → Prop}
variable {pc mc ms len : Nat} {lsC : Array Slot} {rest st0 : List Value} {K : ZK} {ws : va_W} {res : Rs} {a : Array Value}
/-- behind a call, whatever it answers -/
theorem zcall (hr : vx_Run p l e R s m args below meth c H locs cells slots mc ms (F0 m pc lsC st0) rest (zQ K ws res a) (zX K ws res) (zA K)) (hS : va_S (zA K) s.heap H locs)
    (kk : ∀ (vo : Option Value) (ws2 : va_W) (H1 : Heap) (locs1 : List Loc), zro K ws2 res.1 vo → va_P (zD K) zcl ws2 H1 → va_D (zA K) ws2 → zHR K ws2 res.2 → zex ws ws2 → va_S (zA K) s.heap H1 locs1 → W p l e R s m args below meth c H1 locs1 (cells + mc) (slots + ms) Q (F0 m (pc + 3) lsC (vo.toList ++ rest)))
    (kx : ∀ (ci : Nat) (ws2 : va_W) (H1 : Heap) (locs1 : List Loc) (q : Addr) (ce : Cell), res.1 = .inr ci → va_P (zD K) zcl ws2 H1 → va_D (zA K) ws2 → zHR K ws2 res.2 → zex ws ws2 → va_S (zA K) s.heap H1 locs1 → H1[q]? = some ce → ce.vm = .none → s.vm.findClass (zcn ci) = some ce.cls → vx_W p l e R s m args below meth c H1 locs1 (cells + mc) (slots + ms) Q (F0 m pc lsC rest) q) : W p l e R s m args below meth c H locs cells slots Q (F0 m pc lsC st0) := by
  intro T hT X
  rcases hr T hT X with ⟨v, st₀, t, T', L, h0, X', hL, e1, e2, ⟨vo, ws2, hv, hro, hP, hD, hH, hx, hF⟩, st⟩ | ⟨q, st₀, t, T', L, E, ce, h0, X', hL, e1, e2, ⟨ci, ws2, hci, hE, hP, hD, hH, hx, hF⟩, hce, hcv, hcl, st⟩
  · cases hv
    obtain ⟨k1, k2, k3⟩ := vx_keep h0 e1 hS (fun q _ h => h) (fun q h => h) hL hF
    obtain ⟨t2, a1, b1⟩ := kk v ws2 T'.heap (locs ++ L) hro (by rw [e1]; exact hP) hD hH hx k3 T' rfl X'
    exact ⟨t2, st t2 a1, b1⟩
  · obtain ⟨k1, k2, k3⟩ := vx_keep h0 e1 hS (fun q _ h => h) (fun q h => h) hL hF
    subst hE
    obtain ⟨t2, a1, b1⟩ := kx ci ws2 T'.heap (locs ++ L) q ce hci (by rw [e1]; exact hP) hD hH hx k3 (by rw [e1]; exact hce) hcv hcl T' rfl X'
    exact ⟨t2, st.trans a1, b1⟩
end CALL
