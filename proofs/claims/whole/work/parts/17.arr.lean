/-! operations on arrays -/
theorem rdI_spec {h : Hp} {a t : Nat} {i v : Int} (hr : rdI h a t i = some v) : ∃ xs, h.1[a]? = some (.inr (.inl (t, xs))) ∧ 0 ≤ i ∧ i < (xs.length : Int) ∧ i < 2147483648 ∧ xs.getD i.toNat 0 = v := by
  unfold rdI at hr
  split at hr
  · rename_i t' xs hc
    split at hr
    · rename_i hci
      obtain ⟨rfl, h0, h1, h2⟩ := hci
      exact ⟨xs, hc, h0, h1, h2, by rw [List.getD_eq_getElem?_getD, hr]; rfl⟩
    · cases hr
  · cases hr
theorem wrI_spec {h h' : Hp} {a t : Nat} {i v : Int} (hr : wrI h a t i v = some h') : ∃ xs, h.1[a]? = some (.inr (.inl (t, xs))) ∧ 0 ≤ i ∧ i < (xs.length : Int) ∧ i < 2147483648 ∧ h' = (h.1.set a (.inr (.inl (t, xs.set i.toNat v))), h.2) := by
  unfold wrI at hr
  split at hr
  · rename_i t' xs hc
    split at hr
    · rename_i hci
      obtain ⟨rfl, h0, h1, h2⟩ := hci
      exact ⟨xs, hc, h0, h1, h2, (Option.some.inj hr).symm⟩
    · cases hr
  · cases hr
theorem rdL_spec {h : Hp} {a : Nat} {i : Int} {v : Int} (hr : rdL h a i = some v) : ∃ xs, h.1[a]? = some (.inr (.inr (.inl xs))) ∧ 0 ≤ i ∧ i < (xs.length : Int) ∧ i < 2147483648 ∧ xs.getD i.toNat 0 = v := by
  unfold rdL at hr
  split at hr
  · rename_i xs hc
    split at hr
    · rename_i hci
      obtain ⟨h0, h1, h2⟩ := hci
      exact ⟨xs, hc, h0, h1, h2, by rw [List.getD_eq_getElem?_getD, hr]; rfl⟩
    · cases hr
  · cases hr
theorem wrL_spec {h h' : Hp} {a : Nat} {i : Int} {v : Int} (hr : wrL h a i v = some h') : ∃ xs, h.1[a]? = some (.inr (.inr (.inl xs))) ∧ 0 ≤ i ∧ i < (xs.length : Int) ∧ i < 2147483648 ∧ h' = (h.1.set a (.inr (.inr (.inl (xs.set i.toNat v)))), h.2) := by
  unfold wrL at hr
  split at hr
  · rename_i xs hc
    split at hr
    · rename_i hci
      obtain ⟨h0, h1, h2⟩ := hci
      exact ⟨xs, hc, h0, h1, h2, (Option.some.inj hr).symm⟩
    · cases hr
  · cases hr
theorem rdD_spec {h : Hp} {a : Nat} {i : Int} {v : UInt64} (hr : rdD h a i = some v) : ∃ xs, h.1[a]? = some (.inr (.inr (.inr (.inl xs)))) ∧ 0 ≤ i ∧ i < (xs.length : Int) ∧ i < 2147483648 ∧ xs.getD i.toNat 0 = v := by
  unfold rdD at hr
  split at hr
  · rename_i xs hc
    split at hr
    · rename_i hci
      obtain ⟨h0, h1, h2⟩ := hci
      exact ⟨xs, hc, h0, h1, h2, by rw [List.getD_eq_getElem?_getD, hr]; rfl⟩
    · cases hr
  · cases hr
theorem wrD_spec {h h' : Hp} {a : Nat} {i : Int} {v : UInt64} (hr : wrD h a i v = some h') : ∃ xs, h.1[a]? = some (.inr (.inr (.inr (.inl xs)))) ∧ 0 ≤ i ∧ i < (xs.length : Int) ∧ i < 2147483648 ∧ h' = (h.1.set a (.inr (.inr (.inr (.inl (xs.set i.toNat v))))), h.2) := by
  unfold wrD at hr
  split at hr
  · rename_i xs hc
    split at hr
    · rename_i hci
      obtain ⟨h0, h1, h2⟩ := hci
      exact ⟨xs, hc, h0, h1, h2, (Option.some.inj hr).symm⟩
    · cases hr
  · cases hr
theorem zupd_i (xs : List Int) {k : Nat} (hk : k < xs.length) (v : Int) : upd (fun j => Int32.ofInt (xs.getD j 0)) k (Int32.ofInt v) = fun j => Int32.ofInt ((xs.set k v).getD j 0) := by
  funext j
  unfold upd
  split
  · rename_i h
    subst h
    simp [List.getD_eq_getElem?_getD, hk]
  · rename_i h
    simp [List.getD_eq_getElem?_getD, List.getElem?_set, Ne.symm h]
theorem zupd_l (xs : List Int) {k : Nat} (hk : k < xs.length) (v : Int) : vp_updL (fun j => Int64.ofInt (xs.getD j 0)) k (Int64.ofInt v) = fun j => Int64.ofInt ((xs.set k v).getD j 0) := by
  funext j
  unfold vp_updL
  split
  · rename_i h
    subst h
    simp [List.getD_eq_getElem?_getD, hk]
  · rename_i h
    simp [List.getD_eq_getElem?_getD, List.getElem?_set, Ne.symm h]
theorem zupd_d (xs : List UInt64) {k : Nat} (hk : k < xs.length) (v : UInt64) : vf_upd (fun j => xs.getD j 0) k v = fun j => (xs.set k v).getD j 0 := by
  funext j
  unfold vf_upd
  split
  · rename_i h
    subst h
    simp [List.getD_eq_getElem?_getD, hk]
  · rename_i h
    simp [List.getD_eq_getElem?_getD, List.getElem?_set, Ne.symm h]
theorem znar_char (v : Int) : vp_nar .char (Int32.ofInt v) = Int32.ofInt (v % 65536) := by
  rw [← z32_i2c]
  rfl
theorem znar_bool {v : Int} (hv : v = 0 ∨ v = 1) : vp_nar .boolean (Int32.ofInt v) = Int32.ofInt v := by
  rcases hv with rfl | rfl <;> rfl
section OPS4
variable {p : Program} {l : Launch} {e : Env} {R : Room} {s : State} {m : MethodId} {args : Array Value} {below : List Frame} {meth : Method} {c : Code} {H : Heap} {locs : List Loc} {cells slots : Nat} {Q : State → Prop}
variable {cc : ByteArray} {pc : Nat} {lsC : Array Slot} {stC : List Value} {K : ZK} {ws : va_W} {st : Sk} {h h' : Hp} {y : Nat}
theorem o_iald (hx : p.tables.exec = Jvm.exec) (hb : c.code = cc) (hK : va_K (zD K) zcl (ztys K) s) (hP : va_P (zD K) zcl ws H) (hH : zHR K ws h) {a : Nat} {i : Int} {v : Int} (hr : rdI h a 0 i = some v) (hd : decode cc pc = .ok (.iaload, 1)) (hV : zvs K ws (vI i :: vR (some a) :: st) stC) (kk : ∀ stC2, zvs K ws (vI v :: st) stC2 → W p l e R s m args below meth c H locs cells slots Q (F0 m (pc + 1) lsC stC2)) : W p l e R s m args below meth c H locs cells slots Q (F0 m pc lsC stC) := by
  obtain ⟨c1, stC, rfl, h1, hVa⟩ := zvs_cons hV
  obtain ⟨c2, stC, rfl, h2, hVb⟩ := zvs_cons hVa
  have h1 : c1 = .int (Int32.ofInt i) := h1
  subst h1
  obtain ⟨xs, hc, i0, i1, i2, rfl⟩ := rdI_spec hr
  obtain ⟨⟨q, e⟩, hq, -, he⟩ := hH.2 a _ hc
  dsimp only at he
  subst he
  have h3 := zref_at h2 hq
  subst h3
  refine va_iald hx hb hK hP a 0 hq (ztys_at K (by decide)) (z_in i0 i1 i2) hd ?_
  rw [z_cl i0 i2]
  exact kk _ ⟨rfl, hVb⟩
theorem o_cald (hx : p.tables.exec = Jvm.exec) (hb : c.code = cc) (hK : va_K (zD K) zcl (ztys K) s) (hP : va_P (zD K) zcl ws H) (hH : zHR K ws h) {a : Nat} {i : Int} {v : Int} (hr : rdI h a 1 i = some v) (hd : decode cc pc = .ok (.caload, 1)) (hV : zvs K ws (vI i :: vR (some a) :: st) stC) (kk : ∀ stC2, zvs K ws (vI v :: st) stC2 → W p l e R s m args below meth c H locs cells slots Q (F0 m (pc + 1) lsC stC2)) : W p l e R s m args below meth c H locs cells slots Q (F0 m pc lsC stC) := by
  obtain ⟨c1, stC, rfl, h1, hVa⟩ := zvs_cons hV
  obtain ⟨c2, stC, rfl, h2, hVb⟩ := zvs_cons hVa
  have h1 : c1 = .int (Int32.ofInt i) := h1
  subst h1
  obtain ⟨xs, hc, i0, i1, i2, rfl⟩ := rdI_spec hr
  obtain ⟨⟨q, e⟩, hq, -, he⟩ := hH.2 a _ hc
  dsimp only at he
  subst he
  have h3 := zref_at h2 hq
  subst h3
  refine va_cald hx hb hK hP a 1 hq (ztys_at K (by decide)) (z_in i0 i1 i2) hd ?_
  rw [z_cl i0 i2]
  exact kk _ ⟨rfl, hVb⟩
theorem o_zald (hx : p.tables.exec = Jvm.exec) (hb : c.code = cc) (hK : va_K (zD K) zcl (ztys K) s) (hP : va_P (zD K) zcl ws H) (hH : zHR K ws h) {a : Nat} {i : Int} {v : Int} (hr : rdI h a 2 i = some v) (hd : decode cc pc = .ok (.baload, 1)) (hV : zvs K ws (vI i :: vR (some a) :: st) stC) (kk : ∀ stC2, zvs K ws (vI v :: st) stC2 → W p l e R s m args below meth c H locs cells slots Q (F0 m (pc + 1) lsC stC2)) : W p l e R s m args below meth c H locs cells slots Q (F0 m pc lsC stC) := by
  obtain ⟨c1, stC, rfl, h1, hVa⟩ := zvs_cons hV
  obtain ⟨c2, stC, rfl, h2, hVb⟩ := zvs_cons hVa
  have h1 : c1 = .int (Int32.ofInt i) := h1
  subst h1
  obtain ⟨xs, hc, i0, i1, i2, rfl⟩ := rdI_spec hr
  obtain ⟨⟨q, e⟩, hq, -, he⟩ := hH.2 a _ hc
  dsimp only at he
  subst he
  have h3 := zref_at h2 hq
  subst h3
  refine va_zald hx hb hK hP a 2 hq (ztys_at K (by decide)) (z_in i0 i1 i2) hd ?_
  rw [z_cl i0 i2]
  exact kk _ ⟨rfl, hVb⟩
theorem o_lald (hx : p.tables.exec = Jvm.exec) (hb : c.code = cc) (hK : va_K (zD K) zcl (ztys K) s) (hP : va_P (zD K) zcl ws H) (hH : zHR K ws h) {a : Nat} {i : Int} {v : Int} (hr : rdL h a i = some v) (hd : decode cc pc = .ok (.laload, 1)) (hV : zvs K ws (vI i :: vR (some a) :: st) stC) (kk : ∀ stC2, zvs K ws (vL v :: st) stC2 → W p l e R s m args below meth c H locs cells slots Q (F0 m (pc + 1) lsC stC2)) : W p l e R s m args below meth c H locs cells slots Q (F0 m pc lsC stC) := by
  obtain ⟨c1, stC, rfl, h1, hVa⟩ := zvs_cons hV
  obtain ⟨c2, stC, rfl, h2, hVb⟩ := zvs_cons hVa
  have h1 : c1 = .int (Int32.ofInt i) := h1
  subst h1
  obtain ⟨xs, hc, i0, i1, i2, rfl⟩ := rdL_spec hr
  obtain ⟨⟨q, e⟩, hq, he⟩ := hH.2 a _ hc
  dsimp only at he
  subst he
  have h3 := zref_at h2 hq
  subst h3
  refine va_lald hx hb hK hP a 3 hq (ztys_at K (by decide)) (z_in i0 i1 i2) hd ?_
  rw [z_cl i0 i2]
  exact kk _ ⟨rfl, hVb⟩
theorem o_dald (hx : p.tables.exec = Jvm.exec) (hb : c.code = cc) (hK : va_K (zD K) zcl (ztys K) s) (hP : va_P (zD K) zcl ws H) (hH : zHR K ws h) {a : Nat} {i : Int} {v : UInt64} (hr : rdD h a i = some v) (hd : decode cc pc = .ok (.daload, 1)) (hV : zvs K ws (vI i :: vR (some a) :: st) stC) (kk : ∀ stC2, zvs K ws (vD v :: st) stC2 → W p l e R s m args below meth c H locs cells slots Q (F0 m (pc + 1) lsC stC2)) : W p l e R s m args below meth c H locs cells slots Q (F0 m pc lsC stC) := by
  obtain ⟨c1, stC, rfl, h1, hVa⟩ := zvs_cons hV
  obtain ⟨c2, stC, rfl, h2, hVb⟩ := zvs_cons hVa
  have h1 : c1 = .int (Int32.ofInt i) := h1
  subst h1
  obtain ⟨xs, hc, i0, i1, i2, rfl⟩ := rdD_spec hr
  obtain ⟨⟨q, e⟩, hq, he⟩ := hH.2 a _ hc
  dsimp only at he
  subst he
  have h3 := zref_at h2 hq
  subst h3
  refine va_dald hx hb hK hP a 4 hq (ztys_at K (by decide)) (z_in i0 i1 i2) hd ?_
  rw [z_cl i0 i2]
  exact kk _ ⟨rfl, hVb⟩
theorem o_iast (hx : p.tables.exec = Jvm.exec) (hb : c.code = cc) (hK : va_K (zD K) zcl (ztys K) s) (hP : va_P (zD K) zcl ws H) (hD : va_D (zA K) ws) (hS : va_S (zA K) s.heap H locs) (hH : zHR K ws h) {a : Nat} {i : Int} {v : Int}  (hr : wrI h a 0 i v = some h') (hd : decode cc pc = .ok (.iastore, 1)) (hV : zvs K ws (vI v :: vI i :: vR (some a) :: st) stC) (kk : ∀ (ws2 : va_W) (H1 : Heap) (locs1 : List Loc) stC2, zex ws ws2 → va_P (zD K) zcl ws2 H1 → va_D (zA K) ws2 → va_S (zA K) s.heap H1 locs1 → zHR K ws2 h' → zvs K ws2 st stC2 → W p l e R s m args below meth c H1 locs1 cells slots Q (F0 m (pc + 1) lsC stC2)) : W p l e R s m args below meth c H locs cells slots Q (F0 m pc lsC stC) := by
  obtain ⟨c0, stC, rfl, h0, hVa⟩ := zvs_cons hV
  obtain ⟨c1, stC, rfl, h1, hVb⟩ := zvs_cons hVa
  obtain ⟨c2, stC, rfl, h2, hVc⟩ := zvs_cons hVb
  have h0 : c0 = .int (Int32.ofInt v) := h0
  have h1 : c1 = .int (Int32.ofInt i) := h1
  subst h0; subst h1
  obtain ⟨xs, hc, i0, i1, i2, rfl⟩ := wrI_spec hr
  obtain ⟨⟨q, e⟩, hq, ht, he⟩ := hH.2 a _ hc
  dsimp only at he
  subst he
  have h3 := zref_at h2 hq
  subst h3
  refine va_iast hx hb hK hP hD hS a 0 hq (ztys_at K (by decide)) (z_in i0 i1 i2) hd (fun H1 locs1 hP1 hD1 hS1 => ?_)
  rw [z_cl i0 i2, zupd_i xs (by omega) v] at hP1 hD1
  have hx2 := fun e => zex.set ws (e := e) hq
  exact kk _ H1 locs1 stC (hx2 _) hP1 hD1 hS1 (hH.set hq ⟨ht, by rw [List.length_set]⟩) (hVc.mono (hx2 _))
theorem o_cast (hx : p.tables.exec = Jvm.exec) (hb : c.code = cc) (hK : va_K (zD K) zcl (ztys K) s) (hP : va_P (zD K) zcl ws H) (hD : va_D (zA K) ws) (hS : va_S (zA K) s.heap H locs) (hH : zHR K ws h) {a : Nat} {i : Int} {v : Int}  (hr : wrI h a 1 i (v % 65536) = some h') (hd : decode cc pc = .ok (.castore, 1)) (hV : zvs K ws (vI v :: vI i :: vR (some a) :: st) stC) (kk : ∀ (ws2 : va_W) (H1 : Heap) (locs1 : List Loc) stC2, zex ws ws2 → va_P (zD K) zcl ws2 H1 → va_D (zA K) ws2 → va_S (zA K) s.heap H1 locs1 → zHR K ws2 h' → zvs K ws2 st stC2 → W p l e R s m args below meth c H1 locs1 cells slots Q (F0 m (pc + 1) lsC stC2)) : W p l e R s m args below meth c H locs cells slots Q (F0 m pc lsC stC) := by
  obtain ⟨c0, stC, rfl, h0, hVa⟩ := zvs_cons hV
  obtain ⟨c1, stC, rfl, h1, hVb⟩ := zvs_cons hVa
  obtain ⟨c2, stC, rfl, h2, hVc⟩ := zvs_cons hVb
  have h0 : c0 = .int (Int32.ofInt v) := h0
  have h1 : c1 = .int (Int32.ofInt i) := h1
  subst h0; subst h1
  obtain ⟨xs, hc, i0, i1, i2, rfl⟩ := wrI_spec hr
  obtain ⟨⟨q, e⟩, hq, ht, he⟩ := hH.2 a _ hc
  dsimp only at he
  subst he
  have h3 := zref_at h2 hq
  subst h3
  refine va_cast hx hb hK hP hD hS a 1 hq (ztys_at K (by decide)) (z_in i0 i1 i2) hd (fun H1 locs1 hP1 hD1 hS1 => ?_)
  rw [z_cl i0 i2, znar_char, zupd_i xs (by omega) (v % 65536)] at hP1 hD1
  have hx2 := fun e => zex.set ws (e := e) hq
  exact kk _ H1 locs1 stC (hx2 _) hP1 hD1 hS1 (hH.set hq ⟨ht, by rw [List.length_set]⟩) (hVc.mono (hx2 _))
theorem o_zast (hx : p.tables.exec = Jvm.exec) (hb : c.code = cc) (hK : va_K (zD K) zcl (ztys K) s) (hP : va_P (zD K) zcl ws H) (hD : va_D (zA K) ws) (hS : va_S (zA K) s.heap H locs) (hH : zHR K ws h) {a : Nat} {i : Int} {v : Int} (h01 : v = 0 ∨ v = 1) (hr : wrI h a 2 i v = some h') (hd : decode cc pc = .ok (.bastore, 1)) (hV : zvs K ws (vI v :: vI i :: vR (some a) :: st) stC) (kk : ∀ (ws2 : va_W) (H1 : Heap) (locs1 : List Loc) stC2, zex ws ws2 → va_P (zD K) zcl ws2 H1 → va_D (zA K) ws2 → va_S (zA K) s.heap H1 locs1 → zHR K ws2 h' → zvs K ws2 st stC2 → W p l e R s m args below meth c H1 locs1 cells slots Q (F0 m (pc + 1) lsC stC2)) : W p l e R s m args below meth c H locs cells slots Q (F0 m pc lsC stC) := by
  obtain ⟨c0, stC, rfl, h0, hVa⟩ := zvs_cons hV
  obtain ⟨c1, stC, rfl, h1, hVb⟩ := zvs_cons hVa
  obtain ⟨c2, stC, rfl, h2, hVc⟩ := zvs_cons hVb
  have h0 : c0 = .int (Int32.ofInt v) := h0
  have h1 : c1 = .int (Int32.ofInt i) := h1
  subst h0; subst h1
  obtain ⟨xs, hc, i0, i1, i2, rfl⟩ := wrI_spec hr
  obtain ⟨⟨q, e⟩, hq, ht, he⟩ := hH.2 a _ hc
  dsimp only at he
  subst he
  have h3 := zref_at h2 hq
  subst h3
  refine va_zast hx hb hK hP hD hS a 2 hq (ztys_at K (by decide)) (z_in i0 i1 i2) hd (fun H1 locs1 hP1 hD1 hS1 => ?_)
  rw [z_cl i0 i2, znar_bool h01, zupd_i xs (by omega) v] at hP1 hD1
  have hx2 := fun e => zex.set ws (e := e) hq
  exact kk _ H1 locs1 stC (hx2 _) hP1 hD1 hS1 (hH.set hq ⟨ht, by rw [List.length_set]⟩) (hVc.mono (hx2 _))
theorem o_last (hx : p.tables.exec = Jvm.exec) (hb : c.code = cc) (hK : va_K (zD K) zcl (ztys K) s) (hP : va_P (zD K) zcl ws H) (hD : va_D (zA K) ws) (hS : va_S (zA K) s.heap H locs) (hH : zHR K ws h) {a : Nat} {i : Int} {v : Int}  (hr : wrL h a i v = some h') (hd : decode cc pc = .ok (.lastore, 1)) (hV : zvs K ws (vL v :: vI i :: vR (some a) :: st) stC) (kk : ∀ (ws2 : va_W) (H1 : Heap) (locs1 : List Loc) stC2, zex ws ws2 → va_P (zD K) zcl ws2 H1 → va_D (zA K) ws2 → va_S (zA K) s.heap H1 locs1 → zHR K ws2 h' → zvs K ws2 st stC2 → W p l e R s m args below meth c H1 locs1 cells slots Q (F0 m (pc + 1) lsC stC2)) : W p l e R s m args below meth c H locs cells slots Q (F0 m pc lsC stC) := by
  obtain ⟨c0, stC, rfl, h0, hVa⟩ := zvs_cons hV
  obtain ⟨c1, stC, rfl, h1, hVb⟩ := zvs_cons hVa
  obtain ⟨c2, stC, rfl, h2, hVc⟩ := zvs_cons hVb
  have h0 : c0 = .long (Int64.ofInt v) := h0
  have h1 : c1 = .int (Int32.ofInt i) := h1
  subst h0; subst h1
  obtain ⟨xs, hc, i0, i1, i2, rfl⟩ := wrL_spec hr
  obtain ⟨⟨q, e⟩, hq, he⟩ := hH.2 a _ hc
  dsimp only at he
  subst he
  have h3 := zref_at h2 hq
  subst h3
  refine va_last hx hb hK hP hD hS a 3 hq (ztys_at K (by decide)) (z_in i0 i1 i2) hd (fun H1 locs1 hP1 hD1 hS1 => ?_)
  rw [z_cl i0 i2, zupd_l xs (by omega) v] at hP1 hD1
  have hx2 := fun e => zex.set ws (e := e) hq
  exact kk _ H1 locs1 stC (hx2 _) hP1 hD1 hS1 (hH.set hq (by show _ = _; rw [List.length_set])) (hVc.mono (hx2 _))
theorem o_dast (hx : p.tables.exec = Jvm.exec) (hb : c.code = cc) (hK : va_K (zD K) zcl (ztys K) s) (hP : va_P (zD K) zcl ws H) (hD : va_D (zA K) ws) (hS : va_S (zA K) s.heap H locs) (hH : zHR K ws h) {a : Nat} {i : Int} {v : UInt64}  (hr : wrD h a i v = some h') (hd : decode cc pc = .ok (.dastore, 1)) (hV : zvs K ws (vD v :: vI i :: vR (some a) :: st) stC) (kk : ∀ (ws2 : va_W) (H1 : Heap) (locs1 : List Loc) stC2, zex ws ws2 → va_P (zD K) zcl ws2 H1 → va_D (zA K) ws2 → va_S (zA K) s.heap H1 locs1 → zHR K ws2 h' → zvs K ws2 st stC2 → W p l e R s m args below meth c H1 locs1 cells slots Q (F0 m (pc + 1) lsC stC2)) : W p l e R s m args below meth c H locs cells slots Q (F0 m pc lsC stC) := by
  obtain ⟨c0, stC, rfl, h0, hVa⟩ := zvs_cons hV
  obtain ⟨c1, stC, rfl, h1, hVb⟩ := zvs_cons hVa
  obtain ⟨c2, stC, rfl, h2, hVc⟩ := zvs_cons hVb
  have h0 : c0 = .double v := h0
  have h1 : c1 = .int (Int32.ofInt i) := h1
  subst h0; subst h1
  obtain ⟨xs, hc, i0, i1, i2, rfl⟩ := wrD_spec hr
  obtain ⟨⟨q, e⟩, hq, he⟩ := hH.2 a _ hc
  dsimp only at he
  subst he
  have h3 := zref_at h2 hq
  subst h3
  refine va_dast hx hb hK hP hD hS a 4 hq (ztys_at K (by decide)) (z_in i0 i1 i2) hd (fun H1 locs1 hP1 hD1 hS1 => ?_)
  rw [z_cl i0 i2, zupd_d xs (by omega) v] at hP1 hD1
  have hx2 := fun e => zex.set ws (e := e) hq
  exact kk _ H1 locs1 stC (hx2 _) hP1 hD1 hS1 (hH.set hq (by show _ = _; rw [List.length_set])) (hVc.mono (hx2 _))
theorem o_alen (hx : p.tables.exec = Jvm.exec) (hb : c.code = cc) (hK : va_K (zD K) zcl (ztys K) s) (hP : va_P (zD K) zcl ws H) (hH : zHR K ws h) {a : Nat} {v : Int} (hr : zlen h a = some v) (hd : decode cc pc = .ok (.arraylength, 1)) (hV : zvs K ws (vR (some a) :: st) stC) (kk : ∀ stC2, zvs K ws (vI v :: st) stC2 → W p l e R s m args below meth c H locs cells slots Q (F0 m (pc + 1) lsC stC2)) : W p l e R s m args below meth c H locs cells slots Q (F0 m pc lsC stC) := by
  obtain ⟨c2, stC, rfl, h2, hVb⟩ := zvs_cons hV
  have cv : ∀ n : Nat, Int32.ofNat n = Int32.ofInt (n : Int) := fun n => (Int32.ofInt_eq_ofNat (n := n)).symm
  unfold zlen at hr
  split at hr
  · rename_i t xs hc
    cases hr
    obtain ⟨⟨q, e⟩, hq, ht, he⟩ := hH.2 a _ hc
    dsimp only at he
    subst he
    have h3 := zref_at h2 hq
    subst h3
    exact va_alen hx hb hK hP a t hq (ztys_at K (by omega)) (cv _) hd (kk _ ⟨rfl, hVb⟩)
  · rename_i xs hc
    cases hr
    obtain ⟨⟨q, e⟩, hq, he⟩ := hH.2 a _ hc
    dsimp only at he
    subst he
    have h3 := zref_at h2 hq
    subst h3
    exact va_alen hx hb hK hP a 3 hq (ztys_at K (by omega)) (cv _) hd (kk _ ⟨rfl, hVb⟩)
  · rename_i xs hc
    cases hr
    obtain ⟨⟨q, e⟩, hq, he⟩ := hH.2 a _ hc
    dsimp only at he
    subst he
    have h3 := zref_at h2 hq
    subst h3
    exact va_alen hx hb hK hP a 4 hq (ztys_at K (by omega)) (cv _) hd (kk _ ⟨rfl, hVb⟩)
  · rename_i t xs hc
    cases hr
    obtain ⟨⟨q, e⟩, hq, ht, f, he, -⟩ := hH.2 a _ hc
    dsimp only at he
    subst he
    have h3 := zref_at h2 hq
    subst h3
    exact va_alen hx hb hK hP a (5 + t) hq (ztys_at K (by omega)) (cv _) hd (kk _ ⟨rfl, hVb⟩)
  · cases hr
theorem rdQ_spec {a : Nat} {i : Int} {v : Option Nat} (hr : rdQ h a i = some v) : ∃ t xs, h.1[a]? = some (.inr (.inr (.inr (.inr (t, xs))))) ∧ 0 ≤ i ∧ i < (xs.length : Int) ∧ i < 2147483648 ∧ xs[i.toNat]? = some v := by
  unfold rdQ at hr
  split at hr
  · rename_i t xs hc
    split at hr
    · rename_i hci
      obtain ⟨h0, h1, h2⟩ := hci
      exact ⟨t, xs, hc, h0, h1, h2, hr⟩
    · cases hr
  · cases hr
theorem zty_ref {t : Nat} (ht : t ≤ 3) : (zty (5 + t)).isReference = true := by
  rcases (show t = 0 ∨ t = 1 ∨ t = 2 ∨ t = 3 by omega) with rfl | rfl | rfl | rfl <;> rfl
theorem o_aald (hx : p.tables.exec = Jvm.exec) (hb : c.code = cc) (hK : va_K (zD K) zcl (ztys K) s) (hP : va_P (zD K) zcl ws H) (hH : zHR K ws h) {a : Nat} {i : Int} {v : Option Nat} (hr : rdQ h a i = some v) (hd : decode cc pc = .ok (.aaload, 1)) (hV : zvs K ws (vI i :: vR (some a) :: st) stC) (kk : ∀ stC2, zvs K ws (vR v :: st) stC2 → W p l e R s m args below meth c H locs cells slots Q (F0 m (pc + 1) lsC stC2)) : W p l e R s m args below meth c H locs cells slots Q (F0 m pc lsC stC) := by
  obtain ⟨c1, stC, rfl, h1, hVa⟩ := zvs_cons hV
  obtain ⟨c2, stC, rfl, h2, hVb⟩ := zvs_cons hVa
  have h1 : c1 = .int (Int32.ofInt i) := h1
  subst h1
  obtain ⟨t, xs, hc, i0, i1, i2, hxs⟩ := rdQ_spec hr
  obtain ⟨⟨q, e⟩, hq, ht, f, he, hf⟩ := hH.2 a _ hc
  dsimp only at he
  subst he
  have h3 := zref_at h2 hq
  subst h3
  have hin := z_in i0 i1 i2
  have hlt : (Int32.ofInt i).toNatClampNeg < xs.length := Nat.not_le.mp fun q => hin (Or.inr q)
  have hKt := hK.2 (5 + t) _ (ztys_at K (by omega))
  refine W.aald (v := va_rf (f (Int32.ofInt i).toNatClampNeg)) (ty := zty (5 + t)) hx hb (hP a _ hq) (hKt.1 xs.length (fun j => va_rf (f j))) (zty_ref ht) (fun q => by cases q) (by show ¬ (Int32.ofInt i < 0 ∨ (arrV _ _ _).slots.size ≤ _); rw [arrV_size]; exact hin) (by show (arrV _ _ _).slots[_]? = _; rw [arrV_read _ _ hlt]) rfl rfl hd ?_
  rw [z_cl i0 i2]
  exact kk _ ⟨(hf _ _ hxs).vr, hVb⟩
end OPS4
