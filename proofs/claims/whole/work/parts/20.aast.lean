/-! stores of references -/
theorem wrQ_spec {h h' : Hp} {a : Nat} {i : Int} {x : Option Nat} (hr : wrQ h a i x = some h') : ∃ t xs, h.1[a]? = some (.inr (.inr (.inr (.inr (t, xs))))) ∧ 0 ≤ i ∧ i < (xs.length : Int) ∧ i < 2147483648 ∧ (∀ k, x = some k → zfit t h.1[k]? = true) ∧ h' = (h.1.set a (.inr (.inr (.inr (.inr (t, xs.set i.toNat x))))), h.2) := by
  unfold wrQ at hr
  split at hr
  · rename_i t xs hc
    split at hr
    · rename_i hci
      obtain ⟨h0, h1, h2, h3⟩ := hci
      exact ⟨t, xs, hc, h0, h1, h2, h3, (Option.some.inj hr).symm⟩
    · cases hr
  · cases hr
theorem zCr_up {K : ZK} {ws : va_W} {t : Nat} (ht : t ≤ 3) {xs : List (Option Nat)} {f : Nat → Option Nat} (hf : ∀ j o, xs[j]? = some o → zqr ws o (f j)) {k : Nat} {x r : Option Nat} (hx : zqr ws x r) : zCr K ws (cQ t (xs.set k x)) (.inl (zcA K (5 + t), xs.length, .inr (.inr (.inr (.inr (va_up f k r)))))) := by
  refine ⟨ht, va_up f k r, by rw [List.length_set], fun j o ho => ?_⟩
  by_cases hj : k = j
  · subst hj
    have hl := (List.getElem?_eq_some_iff.mp ho).1
    rw [List.getElem?_set_self (by simpa using hl)] at ho
    cases ho
    rw [va_up_self]
    exact hx
  · rw [List.getElem?_set_ne hj] at ho
    rw [va_up_ne _ _ (Ne.symm hj)]
    exact hf j o ho
theorem zarr_store (cA : ClassId) (n : Nat) (f : Nat → Option Nat) (k : Nat) (r : Option Nat) : (vp_cell cA (n, .inr (.inr (.inr (.inr f))))).setSlot k (va_rf r) = vp_cell cA (n, .inr (.inr (.inr (.inr (va_up f k r))))) := by
  rw [vp_cell_q, vp_cell_q, arrV_store]
  congr 2
  funext q
  by_cases hq : q = k
  · subst hq
    simp [updV, va_up]
  · simp [updV, va_up, hq]
section OPS6
variable {p : Program} {l : Launch} {e : Env} {R : Room} {s : State} {m : MethodId} {args : Array Value} {below : List Frame} {meth : Method} {c : Code} {H : Heap} {locs : List Loc} {cells slots : Nat} {Q : State → Prop}
variable {cc : ByteArray} {pc : Nat} {lsC : Array Slot} {stC : List Value} {K : ZK} {ws : va_W} {st : Sk} {h h' : Hp} {y : Nat}
/-- the class of an array of references -/
theorem zref_kind (hK : va_K (zD K) zcl (ztys K) s) (hAA : zAA K s) {t : Nat} (ht : t ≤ 3) : ∃ (k : Class) (comp : ClassId) (ft : FieldType), s.vm.classes[zcA K (5 + t)]? = some k ∧ k.kind = .array comp ft ∧ ft.isReference = true := by
  rcases (show t = 0 ∨ t = 1 ∨ t = 2 ∨ t = 3 by omega) with rfl | rfl | rfl | rfl
  · obtain ⟨kA, comp, h1, h2, -⟩ := (hK.2 5 _ (ztys_at K (by omega))).2
    exact ⟨kA, comp, _, h1, h2, rfl⟩
  · obtain ⟨k, kc, ft, h1, h2, h3, -⟩ := hAA (6, 0) (by simp)
    exact ⟨k, _, ft, h1, h2, h3⟩
  · obtain ⟨k, kc, ft, h1, h2, h3, -⟩ := hAA (7, 3) (by simp)
    exact ⟨k, _, ft, h1, h2, h3⟩
  · obtain ⟨k, kc, ft, h1, h2, h3, -⟩ := hAA (8, 7) (by simp)
    exact ⟨k, _, ft, h1, h2, h3⟩
theorem z_aastN (hexec : p.tables.exec = Jvm.exec) (hb : c.code = cc) {a : Addr} {cell : Cell} {j : Int32} {k : Class} {comp : ClassId} {t : FieldType}
    (hcell : H[a]? = some cell) (hobj : ∀ q, cell.vm ≠ .statics q) (hknown : cell.vm ≠ .unknown) (hk : s.vm.classes[cell.cls]? = some k) (hkind : k.kind = .array comp t) (href : t.isReference = true) (hin : ¬ j < 0 ∧ j.toNatClampNeg < cell.slots.size)
    {rest : List Value} (hdg : decode cc pc = .ok (.aastore, 1))
    (kk : ∀ H' : Heap, H'[a]? = some (cell.setSlot j.toNatClampNeg .null) → H'.size = H.size → (∀ q, q ≠ a → H'[q]? = H[q]?) → W p l e R s m args below meth c H' (locs ++ [⟨a, j.toNatClampNeg⟩]) cells slots Q (F0 m (pc + 1) lsC rest)) :
    W p l e R s m args below meth c H locs cells slots Q (F0 m pc lsC (.null :: .int j :: .ref a :: rest)) := by
  intro T hT X
  have hT' : T.heap[a]? = some cell := by rw [hT]; exact hcell
  obtain ⟨X', st⟩ := X.aastoreNullIn hexec hT' hobj hknown hk hkind href hin (g := F0 m pc lsC (.null :: .int j :: .ref a :: rest)) rfl rfl (by rw [hb]; exact hdg)
  have hlt : a < T.heap.size := (Array.getElem?_eq_some_iff.mp hT').1
  obtain ⟨t', a1, b1⟩ := kk _ (heapAt_setCell_self _ hlt) (by rw [size_setCell, hT]) (fun q hq => by rw [heapAt_setCell_ne _ (Ne.symm hq), hT]) (T.setCell a (cell.setSlot j.toNatClampNeg .null)) rfl X'
  exact ⟨t', st t' a1, b1⟩
theorem zasg_self {vm : Vm} {cX : ClassId} : vm.assignable cX cX = true := by
  show (cX == cX || _) = true
  simp only [beq_self_eq_true, Bool.true_or]
theorem o_aast (hx : p.tables.exec = Jvm.exec) (hb : c.code = cc) (hts : ∀ w ∈ zW, ∀ a, w.before a s = true) (hK : va_K (zD K) zcl (ztys K) s) (hAA : zAA K s) (hP : va_P (zD K) zcl ws H) (hD : va_D (zA K) ws) (hS : va_S (zA K) s.heap H locs) (hH : zHR K ws h) {a : Nat} {i : Int} {x : Option Nat} (hr : wrQ h a i x = some h') (hd : decode cc pc = .ok (.aastore, 1)) (hV : zvs K ws (vR x :: vI i :: vR (some a) :: st) stC)
    (kk : ∀ (ws2 : va_W) (H1 : Heap) (locs1 : List Loc) stC2, zex ws ws2 → va_P (zD K) zcl ws2 H1 → va_D (zA K) ws2 → va_S (zA K) s.heap H1 locs1 → zHR K ws2 h' → zvs K ws2 st stC2 → W p l e R s m args below meth c H1 locs1 cells slots Q (F0 m (pc + 1) lsC stC2)) : W p l e R s m args below meth c H locs cells slots Q (F0 m pc lsC stC) := by
  obtain ⟨c0, stC, rfl, h0, hVa⟩ := zvs_cons hV
  obtain ⟨c1, stC, rfl, h1, hVb⟩ := zvs_cons hVa
  obtain ⟨c2, stC, rfl, h2, hVc⟩ := zvs_cons hVb
  have h1 : c1 = .int (Int32.ofInt i) := h1
  subst h1
  obtain ⟨t, xs, hc, i0, i1, i2, hfit, rfl⟩ := wrQ_spec hr
  obtain ⟨⟨q, e9⟩, hq, ht, f, he, hf⟩ := hH.2 a _ hc
  dsimp only at he
  subst he
  have h3 := zref_at h2 hq
  subst h3
  have hin := z_in i0 i1 i2
  have hcl := z_cl i0 i2
  have hlt : (Int32.ofInt i).toNatClampNeg < xs.length := Nat.not_le.mp fun q => hin (Or.inr q)
  have hneg : ¬ Int32.ofInt i < 0 := fun q => hin (Or.inl q)
  have hsz : (vp_cell (zcA K (5 + t)) (xs.length, .inr (.inr (.inr (.inr f))))).slots.size = xs.length := arrV_size _ _ _
  -- the end, for whatever was stored
  have fin : ∀ r, zqr ws x r → ∀ (H1 : Heap) (locs1 : List Loc), va_P (zD K) zcl (ws.set a (q, .inl (zcA K (5 + t), xs.length, .inr (.inr (.inr (.inr (va_up f i.toNat r))))))) H1 → va_D (zA K) (ws.set a (q, .inl (zcA K (5 + t), xs.length, .inr (.inr (.inr (.inr (va_up f i.toNat r))))))) → va_S (zA K) s.heap H1 locs1 → W p l e R s m args below meth c H1 locs1 cells slots Q (F0 m (pc + 1) lsC stC) := fun r hr H1 locs1 hP1 hD1 hS1 =>
    kk _ H1 locs1 stC (zex.set ws hq) hP1 hD1 hS1 (hH.set hq (zCr_up ht hf hr)) (hVc.mono (zex.set ws hq))
  have raw : ∀ r, zqr ws x r → ∀ H' : Heap, H'[q]? = some ((vp_cell (zcA K (5 + t)) (xs.length, .inr (.inr (.inr (.inr f))))).setSlot (Int32.ofInt i).toNatClampNeg (va_rf r)) → H'.size = H.size → (∀ q', q' ≠ q → H'[q']? = H[q']?) → W p l e R s m args below meth c H' (locs ++ [⟨q, (Int32.ofInt i).toNatClampNeg⟩]) cells slots Q (F0 m (pc + 1) lsC stC) := fun r hr H' e1 z oq => by
    rw [zarr_store, hcl] at e1
    exact fin r hr H' _ (hP.set hD hq e1 oq) (hD.set hq) (hS.put z oq (hD.2 a _ hq))
  obtain ⟨kA, comp, ft, k1, k2, k3⟩ := zref_kind hK hAA ht
  cases x with
  | none =>
    have h0 : c0 = .null := h0
    subst h0
    exact z_aastN hx hb (hP a _ hq) (fun _ h => by cases h) (fun h => by cases h) k1 k2 k3 ⟨hneg, by show _ < (vp_cell _ _).slots.size; rw [hsz]; exact hlt⟩ hd (raw none rfl)
  | some kv =>
    obtain ⟨qv, hqv, rfl⟩ := h0
    have hr : zqr ws (some kv) (some qv.1) := ⟨qv, hqv, rfl⟩
    have hft := hfit kv rfl
    cases hcv : h.1[kv]? with
    | none => rw [hcv] at hft; cases t with
      | zero => cases hft
      | succ t => cases t with
        | zero => cases hft
        | succ t => cases t <;> cases hft
    | some cv =>
      rw [hcv] at hft
      obtain ⟨qv', hqv', hcr⟩ := hH.2 kv cv hcv
      rw [hqv] at hqv'
      cases hqv'
      obtain ⟨av, ev⟩ := qv
      rcases (show t = 0 ∨ t = 1 ∨ t = 2 ∨ t = 3 by omega) with rfl | rfl | rfl | rfl
      · -- an object of class 0 in an array of objects
        match cv, hft, hcr with
        | .inl (0, fs), _, ⟨vs, he, _, _⟩ =>
          dsimp only at he
          subst he
          exact va_astqO (E := "java/lang/Object") (r := (RX0, TX0, 3)) hx hb hK hP hD hS a 5 kv 0 hq (ztys_at K (by omega)) (va_Nw.of rfl (hts _ (zat_mem zwords2.2.2.2.2.2.2.2) args)) hqv rfl hin hd (fun H1 locs1 hP1 hD1 hS1 => by
            rw [hcl] at hP1 hD1
            exact fin _ hr H1 locs1 hP1 hD1 hS1)
      · match cv, hft, hcr with
        | .inr (.inl (0, ys)), _, ⟨_, he⟩ =>
          dsimp only at he
          subst he
          obtain ⟨kA, kc, ft, k1, k2, k3, k4⟩ := hAA (6, 0) (by simp)
          exact W.aast hx hb (hP a _ hq) (fun _ h => by cases h) (fun h => by cases h) k1 k2 k3 k4 ⟨hneg, by show _ < (vp_cell _ _).slots.size; rw [hsz]; exact hlt⟩ (hP kv _ hqv) (fun _ h => by cases h) k4 zasg_self rfl rfl hd (raw _ hr)
      · match cv, hft, hcr with
        | .inr (.inr (.inl ys)), _, he =>
          have he : ev = _ := he
          subst he
          obtain ⟨kA, kc, ft, k1, k2, k3, k4⟩ := hAA (7, 3) (by simp)
          exact W.aast hx hb (hP a _ hq) (fun _ h => by cases h) (fun h => by cases h) k1 k2 k3 k4 ⟨hneg, by show _ < (vp_cell _ _).slots.size; rw [hsz]; exact hlt⟩ (hP kv _ hqv) (fun _ h => by cases h) k4 zasg_self rfl rfl hd (raw _ hr)
      · exact absurd hft (by simp [zfit])
end OPS6
