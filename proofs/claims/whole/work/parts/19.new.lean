/-! operations that make cells, and the others -/
theorem zvs_of {K : ZK} {ws : va_W} : ∀ {st : List AV} {cs : List Value}, st.length = cs.length → (∀ (k : Nat) (v : AV), st[k]? = some v → ∃ c, cs[k]? = some c ∧ zvr K ws v c) → zvs K ws st cs
  | [], [], _, _ => trivial
  | v :: st, c :: cs, hl, h => by
    obtain ⟨c', h1, h2⟩ := h 0 v rfl
    simp at h1
    subst h1
    exact ⟨h2, zvs_of (by simpa using hl) (fun k w hk => by simpa using h (k + 1) w (by simpa using hk))⟩
  | [], _ :: _, hl, _ => by simp at hl
  | _ :: _, [], hl, _ => by simp at hl
set_option maxRecDepth 100000 in
theorem zwords2 : zat 128 (.arrayClass .int) = true ∧ zat 110 (.instanceMethod Lib.objectInit) = true ∧ zat 111 (.code Lib.objectInit ⟨#[0xb1]⟩ 1 none) = true ∧ zat 141 (.fieldLink "java/util/ArrayList" 39 "java/util/ArrayList" "DEFAULTCAPACITY_EMPTY_ELEMENTDATA" "[Ljava/lang/Object;") = true ∧ zat 119 (.static Lib.Math.max.name) = true ∧ zat 227 (.static Lib.Math.min.name) = true ∧ zat 79 (.initialized "java/lang/Math") = true ∧ zat 1793 (.castable "Shortsign$Code" "java/lang/Object") = true := by decide +kernel
set_option maxRecDepth 100000 in
theorem zwords3 : zat 120 (.code Lib.Math.max.name Lib.Math.max.code 2 (some .int)) = true ∧ zat 228 (.code Lib.Math.min.name Lib.Math.min.code 2 (some .int)) = true := by decide +kernel
set_option maxRecDepth 100000 in
theorem zwords4 : zat 989 (.arrayOver (.object "java/lang/Object")) = true ∧ ([1356, 1358, 1360].any (fun i => zat i (.arrayOver (.array .int)))) = true ∧ ([1356, 1358, 1360].any (fun i => zat i (.arrayOver (.array .long)))) = true ∧ ([1356, 1358, 1360].any (fun i => zat i (.arrayOver (.array (.array .long))))) = true := by decide +kernel
set_option maxRecDepth 100000 in
theorem zwords5 : (List.range 5).all (fun t => [128, 795, 1431, 1432, 1433, 1784].any (fun i => zat i (.arrayClass (newarray.typeOf (zan t))))) = true := by decide +kernel
theorem zany_mem {is : List Nat} {w : Jvm.Cond} (h : is.any (fun i => zat i w) = true) : w ∈ zW := by
  obtain ⟨i, -, hi⟩ := List.any_eq_true.mp h
  exact zat_mem hi
theorem zcast_self {s : State} {C : String} {cC : ClassId} (h : ClassAt s C cC) : va_Nw (.castable C C) s := by
  unfold va_Nw Cond.before Cond.holds
  simp [Cond.value, h.1, va_assign h]
theorem zlast_vr {K : ZK} {ws : va_W} {h : Hp} (hH : zHR K ws h) {q : Nat} {e : va_E} : zvr K (ws ++ [(q, e)]) (vR (some h.1.length)) (.ref q) := by
  refine ⟨(q, e), ?_, rfl⟩
  rw [← hH.1, List.getElem?_append_right (Nat.le_refl _), Nat.sub_self]
  rfl
section OPS5
variable {p : Program} {l : Launch} {e : Env} {R : Room} {s : State} {m : MethodId} {args : Array Value} {below : List Frame} {meth : Method} {c : Code} {H : Heap} {locs : List Loc} {cells slots : Nat} {Q : State → Prop}
variable {cc : ByteArray} {pc : Nat} {lsC : Array Slot} {stC : List Value} {K : ZK} {ws : va_W} {st : Sk} {h h' : Hp} {y : Nat}
theorem zA_of {K : ZK} {s : State} (hb : zba K ≤ s.heap.size) : ∀ q, s.heap.size ≤ q → zA K q := fun q hq => Nat.le_trans hb hq
/-- a cell more at the heap's end -/
theorem z_push (hP : va_P (zD K) zcl ws H) (hD : va_D (zA K) ws) (hS : va_S (zA K) s.heap H locs) (hba : zba K ≤ s.heap.size) {cell : Cell} {e : va_E} (he : va_at (zD K) zcl (H.size, e) (H.push cell)) : va_P (zD K) zcl (ws ++ [(H.size, e)]) (H.push cell) ∧ va_D (zA K) (ws ++ [(H.size, e)]) ∧ va_S (zA K) s.heap (H.push cell) locs := by
  have o1 : ∀ q : Nat, q < H.size → (H.push cell)[q]? = H[q]? := fun q hq => by rw [Array.getElem?_push, if_neg (Nat.ne_of_lt hq)]
  refine ⟨(hP.kept (fun k q hk => o1 q.1 ((hP k q hk).lt))).app (fun k x hx => ?_), hD.push hP rfl (zA_of hba _ hS.1), ⟨Nat.le_trans hS.1 (by rw [Array.size_push]; omega), fun x h1 h2 => (o1 x (Nat.lt_of_lt_of_le h1 hS.1)).trans (hS.2.1 x h1 h2), hS.2.2⟩⟩
  have hz : k < 1 := (List.getElem?_eq_some_iff.mp hx).1
  rw [show k = 0 by omega] at hx
  cases hx
  exact he
theorem o_new (hx : p.tables.exec = Jvm.exec) (hb : c.code = cc) {o idx ci : Nat} (hts : ∀ w ∈ zW, ∀ a, w.before a s = true) (hown : s.vm.findClass (zcn o) = some m.cls) (hK : va_K (zD K) zcl (ztys K) s) (hP : va_P (zD K) zcl ws H) (hD : va_D (zA K) ws) (hS : va_S (zA K) s.heap H locs) (hba : zba K ≤ s.heap.size) (hH : zHR K ws h) (hci : ci < 8) (hl : zclk o idx (zcn ci) = true) (hcells : cells + 1 ≤ R.cells) (hslots : slots + (zini (zfks ci)).length ≤ R.slots) (hd : decode cc pc = .ok (.new idx, 3)) (hV : zvs K ws st stC)
    (kk : ∀ (ws2 : va_W) (H1 : Heap) stC2, zex ws ws2 → va_P (zD K) zcl ws2 H1 → va_D (zA K) ws2 → va_S (zA K) s.heap H1 locs → zHR K ws2 (h.1 ++ [cO ci (zini (zfks ci))], h.2) → zvs K ws2 (vR (some h.1.length) :: st) stC2 → W p l e R s m args below meth c H1 locs (cells + 1) (slots + (zini (zfks ci)).length) Q (F0 m (pc + 3) lsC stC2)) : W p l e R s m args below meth c H locs cells slots Q (F0 m pc lsC stC) := by
  obtain ⟨⟨C, T, N⟩, hC⟩ : ∃ r, zcl[ci]? = some r := ⟨zcl[ci]'hci, List.getElem?_eq_getElem hci⟩
  obtain ⟨hin, hty, hkind, hnm, hinst, hini, hlen, hCn, hfk⟩ := zcl_ok hC
  have hl9 : (zini (zfks ci)).length = N := by unfold zini; rw [List.length_map, hlen]
  rw [hl9] at hslots kk
  have hfs : ∀ j, j < N → defaultValue (zfT T j) = vp_V ((List.range N).map (fun j => defaultValue (zfT T j))) j := fun j hj => by
    unfold vp_V
    rw [List.getD_eq_getElem?_getD, List.getElem?_map, List.getElem?_range hj]
    rfl
  refine va_new (fs := (List.range N).map (fun j => defaultValue (zfT T j))) hx hb (fun w hw => hts w hw args) hin (zfT T) hty hown (hts _ (by rw [hCn]; exact zclk_ok hl) args) (hts _ hinst args) (hts _ hini args) hK hP hD hS (zA_of hba) hC hfs hcells hslots hd (fun q H1 hP1 hD1 hS1 => ?_)
  have hx2 := zex.app ws [(q, .inr (ci, (List.range N).map (fun j => defaultValue (zfT T j))))]
  refine kk _ H1 _ hx2 hP1 hD1 hS1 (hH.push ⟨_, rfl, zvs_of (by simp [hl9]) (fun k v hk => ?_), by rw [hl9, hC]; rfl⟩) ⟨zlast_vr hH, hV.mono hx2⟩
  · have hkN : k < N := by rw [← hl9]; exact (List.getElem?_eq_some_iff.mp hk).1
    refine ⟨defaultValue (zfT T k), by rw [List.getElem?_map, List.getElem?_range hkN]; rfl, ?_⟩
    unfold zini at hk
    rw [List.getElem?_map, hfk k hkN] at hk
    cases hk
    rcases hkind k hkN with h3 | h3 | h3
    · rw [h3]; rfl
    · rw [h3]; rfl
    · revert h3
      generalize zfT T k = ty
      intro h3
      cases ty <;> simp [zisr] at h3 <;> rfl
theorem zan_ty {t : Nat} (ht : t ≤ 4) : newarray.typeOf (zan t) = zty t := by
  rcases (show t = 0 ∨ t = 1 ∨ t = 2 ∨ t = 3 ∨ t = 4 by omega) with rfl | rfl | rfl | rfl | rfl <;> rfl
theorem zRA_prim {t : Nat} (ht : t ≤ 4) {cX : ClassId} (h : va_RA s cX (zty t)) : s.vm.findClass ("[" ++ (zty t).toString) = some cX := by
  rcases (show t = 0 ∨ t = 1 ∨ t = 2 ∨ t = 3 ∨ t = 4 by omega) with rfl | rfl | rfl | rfl | rfl <;> exact h
/-- what newarray makes, by its tag -/
def zarv (t N : Nat) : vp_A := match t with
  | 3 => (N, .inr (.inl (fun _ => 0)))
  | 4 => (N, .inr (.inr (.inr (.inl (fun _ => 0)))))
  | _ => (N, .inl (fun _ => 0))
theorem zarv_cell {t : Nat} (ht : t ≤ 4) (N : Nat) (cA : ClassId) : vp_cell cA (zarv t N) = arrV cA N (fun _ => defaultValue (zty t)) := by
  rcases (show t = 0 ∨ t = 1 ∨ t = 2 ∨ t = 3 ∨ t = 4 by omega) with rfl | rfl | rfl | rfl | rfl <;> rfl
theorem zrep_i (N : Nat) (k : Nat) : (List.replicate N (0 : Int))[k]?.getD 0 = 0 := by
  rw [List.getElem?_replicate]
  split <;> rfl
theorem zrep_d (N : Nat) (k : Nat) : (List.replicate N (0 : UInt64))[k]?.getD 0 = 0 := by
  rw [List.getElem?_replicate]
  split <;> rfl
theorem zarr_ok {K : ZK} {ws : va_W} {t : Nat} (ht : t ≤ 4) (N : Nat) : zCr K ws (zarr t N) (.inl (zcA K t, zarv t N)) := by
  rcases (show t = 0 ∨ t = 1 ∨ t = 2 ∨ t = 3 ∨ t = 4 by omega) with rfl | rfl | rfl | rfl | rfl <;> simp [zarr, zCr, zarv, zrep_i, zrep_d] <;> rfl
theorem zarr_sz {t : Nat} (ht : t ≤ 4) (N : Nat) : zszc (zarr t N) = N := by
  rcases (show t = 0 ∨ t = 1 ∨ t = 2 ∨ t = 3 ∨ t = 4 by omega) with rfl | rfl | rfl | rfl | rfl <;> simp [zarr, zszc]
theorem o_newarray (hx : p.tables.exec = Jvm.exec) (hb : c.code = cc) (hts : ∀ w ∈ zW, ∀ a, w.before a s = true) (hK : va_K (zD K) zcl (ztys K) s) (hP : va_P (zD K) zcl ws H) (hD : va_D (zA K) ws) (hS : va_S (zA K) s.heap H locs) (hba : zba K ≤ s.heap.size) (hH : zHR K ws h) {t : Nat} (ht : t ≤ 4) {n : Int} (n0 : 0 ≤ n) (n1 : n < 1000000) (hcells : cells + 1 ≤ R.cells) (hslots : slots + n.toNat ≤ R.slots) (hd : decode cc pc = .ok (.newarray (zan t), 2)) (hV : zvs K ws (vI n :: st) stC)
    (kk : ∀ (ws2 : va_W) (H1 : Heap) stC2, zex ws ws2 → va_P (zD K) zcl ws2 H1 → va_D (zA K) ws2 → va_S (zA K) s.heap H1 locs → zHR K ws2 (h.1 ++ [zarr t n.toNat], h.2) → zvs K ws2 (vR (some h.1.length) :: st) stC2 → W p l e R s m args below meth c H1 locs (cells + 1) (slots + n.toNat) Q (F0 m (pc + 2) lsC stC2)) : W p l e R s m args below meth c H locs cells slots Q (F0 m pc lsC stC) := by
  obtain ⟨c1, stC, rfl, h1, hV1⟩ := zvs_cons hV
  have h1 : c1 = .int (Int32.ofInt n) := h1
  subst h1
  have hw : Jvm.Cond.arrayClass (newarray.typeOf (zan t)) ∈ zW := zany_mem (List.all_eq_true.mp zwords5 t (List.mem_range.mpr (by omega)))
  have hcb : componentBytes (zty t) ≤ 8 := by rcases (show t = 0 ∨ t = 1 ∨ t = 2 ∨ t = 3 ∨ t = 4 by omega) with rfl | rfl | rfl | rfl | rfl <;> decide
  refine va_newa (a0 := zarv t n.toNat) (N' := n.toNat) hx hb (hts _ hw args) (zan_ty ht) hK hP hD hS (zA_of hba) (zarv_cell ht _) (by rw [show (0 : Int32) = Int32.ofInt 0 from rfl, z32_lt, nrm_0, nrm_id (by omega) (by omega)]; omega) (z_cl n0 (by omega)) (Nat.le_trans (Nat.mul_le_mul_left _ hcb) (by omega)) hcells hslots hd (fun q cA H1 hK1 hP1 hD1 hS1 => ?_)
  have hq : cA = zcA K t := by
    have g1 := (hK1.2 9 (cA, zty t) (by rw [List.getElem?_append_right (by simp [ztys])]; simp [ztys])).2
    have g2 := zRA_prim ht g1
    have g3 := zRA_prim ht (hK.2 t _ (ztys_at K (by omega))).2
    rw [g2] at g3
    exact Option.some.inj g3
  subst hq
  have hx2 := zex.app ws [(q, .inl (zcA K t, zarv t n.toNat))]
  exact kk _ H1 _ hx2 hP1 hD1 hS1 (hH.push (zarr_ok ht _)) ⟨zlast_vr hH, hV1.mono hx2⟩
theorem zCr_nul {K : ZK} {ws : va_W} {t : Nat} (ht : t ≤ 3) (N : Nat) : zCr K ws (cQ t (List.replicate N none)) (.inl (zcA K (5 + t), N, .inr (.inr (.inr (.inr (fun _ => none)))))) := by
  refine ⟨ht, fun _ => none, by simp, fun j o ho => ?_⟩
  rw [List.getElem?_replicate] at ho
  split at ho
  · cases ho; rfl
  · cases ho
theorem o_anewarray (hx : p.tables.exec = Jvm.exec) (hb : c.code = cc) (hts : ∀ w ∈ zW, ∀ a, w.before a s = true) {o idx : Nat} (hown : s.vm.findClass (zcn o) = some m.cls) (hK : va_K (zD K) zcl (ztys K) s) (hP : va_P (zD K) zcl ws H) (hD : va_D (zA K) ws) (hS : va_S (zA K) s.heap H locs) (hba : zba K ≤ s.heap.size) (hH : zHR K ws h) {t : Nat} (ht : t ≤ 2) (hl : zclk o idx (zqn t) = true) {n : Int} (n0 : 0 ≤ n) (n1 : n < 1000000) (hcells : cells + 1 ≤ R.cells) (hslots : slots + n.toNat ≤ R.slots) (hd : decode cc pc = .ok (.anewarray idx, 3)) (hV : zvs K ws (vI n :: st) stC)
    (kk : ∀ (ws2 : va_W) (H1 : Heap) stC2, zex ws ws2 → va_P (zD K) zcl ws2 H1 → va_D (zA K) ws2 → va_S (zA K) s.heap H1 locs → zHR K ws2 (h.1 ++ [cQ t (List.replicate n.toNat none)], h.2) → zvs K ws2 (vR (some h.1.length) :: st) stC2 → W p l e R s m args below meth c H1 locs (cells + 1) (slots + n.toNat) Q (F0 m (pc + 3) lsC stC2)) : W p l e R s m args below meth c H locs cells slots Q (F0 m pc lsC stC) := by
  obtain ⟨c1, stC, rfl, h1, hV1⟩ := zvs_cons hV
  have h1 : c1 = .int (Int32.ofInt n) := h1
  subst h1
  have hneg : ¬ Int32.ofInt n < 0 := by rw [show (0 : Int32) = Int32.ofInt 0 from rfl, z32_lt, nrm_0, nrm_id (by omega) (by omega)]; omega
  have hcl := z_cl n0 (show n < 2147483648 by omega)
  have hlk := zclk_ok hl
  have fin : ∀ (q : Nat) (H1 : Heap), va_P (zD K) zcl (ws ++ [(q, .inl (zcA K (5 + t), n.toNat, .inr (.inr (.inr (.inr (fun _ => none))))))]) H1 → va_D (zA K) (ws ++ [(q, .inl (zcA K (5 + t), n.toNat, .inr (.inr (.inr (.inr (fun _ => none))))))]) → va_S (zA K) s.heap H1 locs → W p l e R s m args below meth c H1 locs (cells + 1) (slots + n.toNat) Q (F0 m (pc + 3) lsC (.ref q :: stC)) := fun q H1 hP1 hD1 hS1 => by
    have hx2 := zex.app ws [(q, .inl (zcA K (5 + t), n.toNat, .inr (.inr (.inr (.inr (fun _ => none))))))]
    exact kk _ H1 _ hx2 hP1 hD1 hS1 (hH.push (zCr_nul (by omega) _)) ⟨zlast_vr hH, hV1.mono hx2⟩
  have arr : ∀ (ty : FieldType) (t' : Nat), zty t' = .array ty → t' = 5 + t → t' < 9 → (FieldType.array ty).toString = zqn t → Jvm.Cond.arrayOver (.array ty) ∈ zW → W p l e R s m args below meth c H locs cells slots Q (F0 m pc lsC (.int (Int32.ofInt n) :: stC)) := fun ty t' e1 e2 e3 e4 e5 => by
    refine W.anewA (t := ty) hx hb hown (by rw [e4]; exact hts _ hlk args) (hts _ e5 args) rfl hd rfl hneg (by rw [hcl]; omega) hcells (by rw [hcl]; exact hslots) (fun cA kA comp f1 f2 f3 f4 => ?_)
    rw [hcl]
    have hq : cA = zcA K t' := by
      have g := (hK.2 t' _ (ztys_at K e3)).2
      rw [e1] at g
      have g2 : s.vm.findClass ("[" ++ (FieldType.array ty).toString) = some (zcA K t') := g
      rw [f1] at g2
      exact Option.some.inj g2
    subst hq
    subst e2
    have hcell : ({ cls := zcA K (5 + t), slots := Array.replicate n.toNat .null, vm := .none } : Cell) = arrV (zcA K (5 + t)) n.toNat (fun _ => .null) := arrV_new _ _ _
    rw [hcell]
    obtain ⟨hP1, hD1, hS1⟩ := z_push (e := .inl (zcA K (5 + t), n.toNat, .inr (.inr (.inr (.inr (fun _ => none)))))) (cell := arrV (zcA K (5 + t)) n.toNat (fun _ => .null)) hP hD hS hba (by show (H.push _)[H.size]? = some (vp_cell _ _); rw [Array.getElem?_push_size, vp_cell_q]; rfl)
    exact fin H.size _ hP1 hD1 hS1
  rcases (show t = 0 ∨ t = 1 ∨ t = 2 by omega) with rfl | rfl | rfl
  · refine va_newq (C := "java/lang/Object") (N' := n.toNat) hx hb hown (hts _ hlk args) (va_AO.of (A := args) (hts _ (zat_mem zwords4.1) args)) hK hP hD hS (zA_of hba) hneg hcl (by omega) hcells hslots hd (fun q cA H1 hK1 hP1 hD1 hS1 => ?_)
    have hq : cA = zcA K 5 := by
      obtain ⟨_, _, -, -, -, g1⟩ := (hK1.2 9 (cA, .object "java/lang/Object") (by rw [List.getElem?_append_right (by simp [ztys])]; simp [ztys])).2
      obtain ⟨_, _, -, -, -, g2⟩ := (hK.2 5 _ (ztys_at K (by omega))).2
      rw [g1] at g2
      exact Option.some.inj g2
    subst hq
    exact fin q H1 hP1 hD1 hS1
  · exact arr .int 6 rfl rfl (by omega) rfl (zany_mem zwords4.2.1)
  · exact arr .long 7 rfl rfl (by omega) rfl (zany_mem zwords4.2.2.1)
theorem o_checkcast (hx : p.tables.exec = Jvm.exec) (hb : c.code = cc) (hts : ∀ w ∈ zW, ∀ a, w.before a s = true) {o idx a : Nat} (hown : s.vm.findClass (zcn o) = some m.cls) (hK : va_K (zD K) zcl (ztys K) s) (hP : va_P (zD K) zcl ws H) (hH : zHR K ws h) (hl : zclk o idx (zcn 0) = true) (hr : zis h a 0 = true) (hd : decode cc pc = .ok (.checkcast idx, 3)) (hV : zvs K ws (vR (some a) :: st) stC)
    (kk : ∀ stC2, zvs K ws (vR (some a) :: st) stC2 → W p l e R s m args below meth c H locs cells slots Q (F0 m (pc + 3) lsC stC2)) : W p l e R s m args below meth c H locs cells slots Q (F0 m pc lsC stC) := by
  obtain ⟨c1, stC, rfl, h1, hV1⟩ := zvs_cons hV
  unfold zis at hr
  split at hr
  · rename_i ci fs hc
    have hci : ci = 0 := by simpa using hr
    subst hci
    obtain ⟨q, vs, hq, hfs, -⟩ := zobj_at hH hc
    have h2 := zref_at h1 hq
    subst h2
    obtain ⟨r, hr9, cell, g1, g2, g3, -⟩ := hP a _ hq
    have hcls := (hK.1 0 r hr9).2
    have hr0 : r = (RX0, TX0, 3) := by
      have : zcl[0]? = some (RX0, TX0, 3) := rfl
      rw [this] at hr9
      exact (Option.some.inj hr9).symm
    subst hr0
    exact va_castY (C := RX0) (nm := RX0) hx hb hown (hts _ (zclk_ok hl) args) (zcast_self hcls) ⟨cell, g1, by rw [g3]; rfl, by rw [g2]; exact hcls.1⟩ hd (kk _ ⟨h1, hV1⟩)
  · cases hr
theorem o_getstatic (hx : p.tables.exec = Jvm.exec) (hb : c.code = cc) (hCX : zCX K s) (hown : s.vm.findClass (zcn 7) = some m.cls) (hS : va_S (zA K) s.heap H locs) (hd : decode cc pc = .ok (.getstatic 39, 3)) (hV : zvs K ws st stC)
    (kk : ∀ stC2, zvs K ws (vM 1 :: st) stC2 → W p l e R s m args below meth c H locs cells slots Q (F0 m (pc + 3) lsC stC2)) : W p l e R s m args below meth c H locs cells slots Q (F0 m pc lsC stC) :=
  va_gets hx hb hCX.2.2.2.2.2.1 hS hown (hCX.1 _ (zat_mem zwords2.2.2.2.1) args) (fun _ h => h) hd (kk _ ⟨rfl, hV⟩)
theorem o_acmp (hx : p.tables.exec = Jvm.exec) (hb : c.code = cc) (hCX : zCX K s) (hD : va_D (zA K) ws) {off : Int} {tgt : Nat} {v : AV} (hv : v = vM 1 ∨ ∃ r, v = vR r) (hd : decode cc pc = .ok (.if_acmp .eq off, 3)) (ht : (pc : Int) + off = (tgt : Int)) (hV : zvs K ws (vM 1 :: v :: st) stC)
    (kt : v = vM 1 → ∀ stC2, zvs K ws st stC2 → W p l e R s m args below meth c H locs cells slots Q (F0 m tgt lsC stC2)) (kf : v ≠ vM 1 → ∀ stC2, zvs K ws st stC2 → W p l e R s m args below meth c H locs cells slots Q (F0 m (pc + 3) lsC stC2)) : W p l e R s m args below meth c H locs cells slots Q (F0 m pc lsC stC) := by
  obtain ⟨c1, stC, rfl, h1, hV1⟩ := zvs_cons hV
  obtain ⟨c2, stC, rfl, h2, hV2⟩ := zvs_cons hV1
  have h1 : c1 = .ref (za0 K) := h1
  subst h1
  rcases hv with rfl | ⟨r, rfl⟩
  · have h2 : c2 = .ref (za0 K) := h2
    subst h2
    exact lv_acmp_eq (rx := some (za0 K)) (ry := some (za0 K)) hx hb hd ht (fun _ => kt rfl _ hV2) (fun h => absurd rfl h)
  · cases r with
    | none =>
      have h2 : c2 = .null := h2
      subst h2
      exact lv_acmp_eq (rx := none) (ry := some (za0 K)) hx hb hd ht (fun h => by cases h) (fun _ => kf (fun h => by cases h) _ hV2)
    | some k =>
      obtain ⟨q, hq, rfl⟩ := h2
      refine lv_acmp_eq (rx := some q.1) (ry := some (za0 K)) hx hb hd ht (fun h => ?_) (fun _ => kf (fun h => by cases h) _ hV2)
      have h3 := hD.2 k q hq
      rw [Option.some.inj h] at h3
      exact absurd h3 hCX.2.2.2.2.2.2.2.1
theorem o_sld (hx : p.tables.exec = Jvm.exec) (hb : c.code = cc) (hCX : zCX K s) (hS : va_S (zA K) s.heap H locs) {i v : Int} (i0 : 0 ≤ i) (i1 : i < 2147483648) (hr : (zsc K)[i.toNat]? = some v) (hd : decode cc pc = .ok (.iaload, 1)) (hV : zvs K ws (vI i :: vM 0 :: st) stC) (kk : ∀ stC2, zvs K ws (vI v :: st) stC2 → W p l e R s m args below meth c H locs cells slots Q (F0 m (pc + 1) lsC stC2)) : W p l e R s m args below meth c H locs cells slots Q (F0 m pc lsC stC) := by
  obtain ⟨c1, stC, rfl, h1, hV1⟩ := zvs_cons hV
  obtain ⟨c2, stC, rfl, h2, hV2⟩ := zvs_cons hV1
  have h1 : c1 = .int (Int32.ofInt i) := h1
  have h2 : c2 = .ref (zsb K) := h2
  subst h1; subst h2
  have hlt := (List.getElem?_eq_some_iff.mp hr).1
  obtain ⟨-, -, -, -, -, -, -, -, hX, hbl, hbA, -⟩ := hCX
  refine va_sld hx hb hX hbl hbA hS (z_in i0 (by omega) i1) hd ?_
  rw [z_cl i0 i1]
  refine kk _ ⟨?_, hV2⟩
  show _ = _
  rw [List.getD_eq_getElem?_getD, hr]
  rfl
theorem o_slen (hx : p.tables.exec = Jvm.exec) (hb : c.code = cc) (hCX : zCX K s) (hS : va_S (zA K) s.heap H locs) (hd : decode cc pc = .ok (.arraylength, 1)) (hV : zvs K ws (vM 0 :: st) stC) (kk : ∀ stC2, zvs K ws (vI ((zsc K).length : Int) :: st) stC2 → W p l e R s m args below meth c H locs cells slots Q (F0 m (pc + 1) lsC stC2)) : W p l e R s m args below meth c H locs cells slots Q (F0 m pc lsC stC) := by
  obtain ⟨c1, stC, rfl, h1, hV1⟩ := zvs_cons hV
  have h1 : c1 = .ref (zsb K) := h1
  subst h1
  obtain ⟨-, -, -, -, -, -, -, -, hX, hbl, hbA, -⟩ := hCX
  exact va_slen hx hb hX hbl hbA hS hd (kk _ ⟨by show _ = _; rw [Int32.ofInt_eq_ofNat], hV1⟩)
theorem o_elen (hx : p.tables.exec = Jvm.exec) (hb : c.code = cc) (hCX : zCX K s) (hS : va_S (zA K) s.heap H locs) (hd : decode cc pc = .ok (.arraylength, 1)) (hV : zvs K ws (vM 1 :: st) stC) (kk : ∀ stC2, zvs K ws (vI 0 :: st) stC2 → W p l e R s m args below meth c H locs cells slots Q (F0 m (pc + 1) lsC stC2)) : W p l e R s m args below meth c H locs cells slots Q (F0 m pc lsC stC) := by
  obtain ⟨c1, stC, rfl, h1, hV1⟩ := zvs_cons hV
  have h1 : c1 = .ref (za0 K) := h1
  subst h1
  obtain ⟨-, -, -, -, -, -, ⟨cell, h7, h8, h9⟩, h10, -⟩ := hCX
  have hlt : za0 K < s.heap.size := (Array.getElem?_eq_some_iff.mp h7).1
  exact W.alen (n := 0) hx hb (by rw [hS.2.1 _ hlt h10]; exact h7) h8 (by rw [h9]; rfl) rfl rfl hd (kk _ ⟨rfl, hV1⟩)
theorem o_objInit (hx : p.tables.exec = Jvm.exec) (hb : c.code = cc) (hts : ∀ w ∈ zW, ∀ a, w.before a s = true) {o idx : Nat} (hown : s.vm.findClass (zcn o) = some m.cls) (hl : Jvm.Cond.methodLink (zcn o) idx Lib.objectInit ∈ zW) (hsz : lsC.size = c.maxLocals) (hf : 1 ≤ R.frames) (hlo : 12 ≤ R.locals) {a : Nat} (hd : decode cc pc = .ok (.invokespecial idx, 3)) (hV : zvs K ws [vR (some a)] stC)
    (kk : W p l e R s m args below meth c H locs cells slots Q (F0 m (pc + 3) lsC [])) : W p l e R s m args below meth c H locs cells slots Q (F0 m pc lsC stC) := by
  obtain ⟨c1, stC, rfl, h1, hV1⟩ := zvs_cons hV
  have h0 := zvs_nil hV1
  subst h0
  obtain ⟨q, -, rfl⟩ := h1
  exact W.objInit hx hb hown (hts _ hl args) (hts _ (zat_mem zwords2.2.1) args) (hts _ (zat_mem zwords2.2.2.1) args) rfl hsz rfl hd hf (by show 2 * 0 + _ + 12 ≤ _; simpa using hlo) kk
theorem o_math (hx : p.tables.exec = Jvm.exec) (hb : c.code = cc) (hts : ∀ w ∈ zW, ∀ a, w.before a s = true) {o idx k : Nat} (hown : s.vm.findClass (zcn o) = some m.cls) (hl : zmtL.any (fun e => e.1 == o && e.2.1 == idx && e.2.2 == k) = true) (hsz : c.maxLocals = lsC.size) (hf : 1 ≤ R.frames) (hlo : 29 ≤ R.locals) (hc : cells ≤ R.cells) (hs : slots ≤ R.slots) {a b : Int} (hst : st.length ≤ 8) (hd : decode cc pc = .ok (.invokestatic idx, 3)) (hV : zvs K ws (vI b :: vI a :: st) stC)
    (kk : ∀ stC2, zvs K ws (vI (if k = 0 then (if nrm a < nrm b then b else a) else (if nrm b < nrm a then b else a)) :: st) stC2 → W p l e R s m args below meth c H locs cells slots Q (F0 m (pc + 3) lsC stC2)) : W p l e R s m args below meth c H locs cells slots Q (F0 m pc lsC stC) := by
  obtain ⟨c1, stC, rfl, h1, hV1⟩ := zvs_cons hV
  obtain ⟨c2, stC, rfl, h2, hV2⟩ := zvs_cons hV1
  have h1 : c1 = .int (Int32.ofInt b) := h1
  have h2 : c2 = .int (Int32.ofInt a) := h2
  subst h1; subst h2
  obtain ⟨⟨o', idx', k'⟩, he, h3⟩ := List.any_eq_true.mp hl
  simp only [Bool.and_eq_true, beq_iff_eq] at h3
  obtain ⟨⟨rfl, rfl⟩, rfl⟩ := h3
  obtain ⟨i, hi⟩ := zip_at zmtP_len he
  have h4 := List.all_eq_true.mp zmtw_all _ hi
  simp only [Bool.and_eq_true, decide_eq_true_eq] at h4
  have h5 := zat_mem h4.2
  have hcat := hV2.catle
  by_cases hk : k' = 0
  · subst hk
    refine va_mmax hx hb hsz hown (hts _ h5 args) (hts _ (zat_mem zwords2.2.2.2.2.1) args) (hts _ (zat_mem zwords2.2.2.2.2.2.2.1) args) (hts _ (zat_mem zwords3.1) args) hf (by omega) hc hs hd (kk _ ⟨?_, hV2⟩)
    show _ = _
    simp only [z32_lt, if_true]
    split <;> rfl
  · have hk1 : k' = 1 := by omega
    subst hk1
    refine va_mmin hx hb hsz hown (hts _ h5 args) (hts _ (zat_mem zwords2.2.2.2.2.2.1) args) (hts _ (zat_mem zwords2.2.2.2.2.2.2.1) args) (hts _ (zat_mem zwords3.2) args) hf (by omega) hc hs hd (kk _ ⟨?_, hV2⟩)
    show _ = _
    simp only [z32_lt]
    split <;> simp_all
end OPS5
