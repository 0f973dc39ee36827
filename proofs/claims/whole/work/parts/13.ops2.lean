/-! stores into locals -/
theorem zclean_at {old : Lc} {i : Nat} {l : Lc} {j : Nat} {w : AV} (hlen : l.length = old.length) (h : (zclean old i l)[j]? = some (some w)) : l[j]? = some (some w) ∧ (j + 1 = i → ∀ u, old[j]? = some (some u) → zwide u = false) := by
  unfold zclean at h
  cases i with
  | zero => exact ⟨h, fun hj => by omega⟩
  | succ k =>
    simp only at h
    split at h
    · rename_i w0 hw0
      split at h
      · by_cases hjk : k = j
        · subst hjk
          by_cases hl : k < l.length
          · rw [List.getElem?_set_self hl] at h
            cases h
          · rw [List.getElem?_eq_none (by simpa using Nat.not_lt.mp hl)] at h
            cases h
        · rw [List.getElem?_set_ne hjk] at h
          exact ⟨h, fun hj => by omega⟩
      · rename_i hn
        refine ⟨h, fun hj u hu => ?_⟩
        have hjk : j = k := by omega
        subst hjk
        rw [List.getD_eq_getElem?_getD, hu] at hw0
        simp at hw0
        subst hw0
        simpa using hn
    · rename_i hn
      refine ⟨h, fun hj u hu => ?_⟩
      have hjk : j = k := by omega
      subst hjk
      rw [List.getD_eq_getElem?_getD, hu] at hn
      simp at hn
theorem zclean_len (old : Lc) (i : Nat) (l : Lc) : (zclean old i l).length = l.length := by
  unfold zclean
  cases i with
  | zero => rfl
  | succ k =>
    simp only
    split
    · split
      · simp
      · rfl
    · rfl
theorem zset1_ok {K : ZK} {ws : va_W} {ls ls' : Lc} {nL i : Nat} {v : AV} {c : Value} {L : List (Nat × Value)} (h0 : ls.length = nL) (h2 : ∀ (j : Nat) (v : AV), ls[j]? = some (some v) → ∃ c, zvr K ws v c ∧ (j, c) ∈ L) (hv : zvr K ws v c) (hw : zwide v = false) (hs : zset ls i v = some ls') :
    i < nL ∧ ls'.length = nL ∧ ∀ (j : Nat) (w : AV), ls'[j]? = some (some w) → ∃ d, zvr K ws w d ∧ (j, d) ∈ (i, c) :: L.filter (fun q => !(q.1 == i) && !(q.1 + 1 == i && q.2.category == 2)) := by
  unfold zset at hs
  rw [if_neg (by rw [hw]; decide)] at hs
  split at hs
  · rename_i hi
    cases hs
    refine ⟨by omega, by rw [zclean_len]; simp [h0], fun j w hj => ?_⟩
    obtain ⟨h3, h4⟩ := zclean_at (by simp) hj
    by_cases hji : i = j
    · subst hji
      rw [List.getElem?_set_self hi] at h3
      cases h3
      exact ⟨c, hv, List.mem_cons_self⟩
    · rw [List.getElem?_set_ne hji] at h3
      obtain ⟨d, h5, h6⟩ := h2 j w h3
      refine ⟨d, h5, List.mem_cons_of_mem _ (List.mem_filter.mpr ⟨h6, ?_⟩)⟩
      have hji' : j ≠ i := fun h => hji h.symm
      simp only [Bool.and_eq_true, Bool.not_eq_true', beq_eq_false_iff_ne, ne_eq, Bool.and_eq_false_iff]
      refine ⟨hji', ?_⟩
      by_cases hj1 : j + 1 = i
      · right
        rw [h5.cat, h4 hj1 w h3]
        decide
      · left
        exact hj1
  · cases hs
theorem zset2_ok {K : ZK} {ws : va_W} {ls ls' : Lc} {nL i : Nat} {v : AV} {c : Value} {L : List (Nat × Value)} (h0 : ls.length = nL) (h2 : ∀ (j : Nat) (v : AV), ls[j]? = some (some v) → ∃ c, zvr K ws v c ∧ (j, c) ∈ L) (hv : zvr K ws v c) (hw : zwide v = true) (hs : zset ls i v = some ls') :
    i + 1 < nL ∧ ls'.length = nL ∧ ∀ (j : Nat) (w : AV), ls'[j]? = some (some w) → ∃ d, zvr K ws w d ∧ (j, d) ∈ (i, c) :: L.filter (fun q => !(q.1 == i) && (!(q.1 == i + 1) && !(q.1 + 1 == i && q.2.category == 2))) := by
  unfold zset at hs
  rw [if_pos hw] at hs
  split at hs
  · rename_i hi
    cases hs
    refine ⟨by omega, by rw [zclean_len]; simp [h0], fun j w hj => ?_⟩
    obtain ⟨h3, h4⟩ := zclean_at (by simp) hj
    by_cases hj1 : i + 1 = j
    · subst hj1
      rw [List.getElem?_set_self (by simpa using hi)] at h3
      cases h3
    rw [List.getElem?_set_ne hj1] at h3
    by_cases hji : i = j
    · subst hji
      rw [List.getElem?_set_self (by omega)] at h3
      cases h3
      exact ⟨c, hv, List.mem_cons_self⟩
    · rw [List.getElem?_set_ne hji] at h3
      obtain ⟨d, h5, h6⟩ := h2 j w h3
      refine ⟨d, h5, List.mem_cons_of_mem _ (List.mem_filter.mpr ⟨h6, ?_⟩)⟩
      have hji' : j ≠ i := fun h => hji h.symm
      have hj1' : j ≠ i + 1 := fun h => hj1 h.symm
      simp only [Bool.and_eq_true, Bool.not_eq_true', beq_eq_false_iff_ne, ne_eq, Bool.and_eq_false_iff]
      refine ⟨hji', hj1', ?_⟩
      by_cases hj2 : j + 1 = i
      · right
        rw [h5.cat, h4 hj2 w h3]
        decide
      · left
        exact hj2
  · cases hs
section OPS2
variable {p : Program} {l : Launch} {e : Env} {R : Room} {s : State} {m : MethodId} {args : Array Value} {below : List Frame} {meth : Method} {c : Code} {H : Heap} {locs : List Loc} {cells slots : Nat} {Q : State → Prop}
variable {cc : ByteArray} {pc : Nat} {lsC : Array Slot} {stC : List Value} {K : ZK} {ws : va_W} {st : Sk} {ls ls' : Lc} {nL : Nat}
theorem o_istore (hx : p.tables.exec = Jvm.exec) (hb : c.code = cc) {i : Nat} {a : Int} (hd : decode cc pc = .ok (.istore i, 2)) (hL : zLR K ws ls lsC nL) (hs : zset ls i (vI a) = some ls') (hV : zvs K ws (vI a :: st) stC) (k : ∀ lsC2 stC2, zLR K ws ls' lsC2 nL → zvs K ws st stC2 → W p l e R s m args below meth c H locs cells slots Q (F0 m (pc + 2) lsC2 stC2)) : W p l e R s m args below meth c H locs cells slots Q (F0 m pc lsC stC) := by
  obtain ⟨c1, stC, rfl, h1, hVa⟩ := zvs_cons hV
  have h1 : c1 = .int (Int32.ofInt a) := h1
  subst h1
  obtain ⟨h0, L, h3, h4⟩ := hL
  obtain ⟨h5, h6, h7⟩ := zset1_ok h0 h4 (v := vI a) (c := .int (Int32.ofInt a)) rfl rfl hs
  exact lv_istore hx hb hd h3 h5 rfl (fun lsC2 hl2 => k lsC2 _ ⟨h6, _, hl2, h7⟩ hVa)
theorem o_istore_n (hx : p.tables.exec = Jvm.exec) (hb : c.code = cc) {n : Fin 4} {a : Int} (hd : decode cc pc = .ok (.istore_n n, 1)) (hL : zLR K ws ls lsC nL) (hs : zset ls n.val (vI a) = some ls') (hV : zvs K ws (vI a :: st) stC) (k : ∀ lsC2 stC2, zLR K ws ls' lsC2 nL → zvs K ws st stC2 → W p l e R s m args below meth c H locs cells slots Q (F0 m (pc + 1) lsC2 stC2)) : W p l e R s m args below meth c H locs cells slots Q (F0 m pc lsC stC) := by
  obtain ⟨c1, stC, rfl, h1, hVa⟩ := zvs_cons hV
  have h1 : c1 = .int (Int32.ofInt a) := h1
  subst h1
  obtain ⟨h0, L, h3, h4⟩ := hL
  obtain ⟨h5, h6, h7⟩ := zset1_ok h0 h4 (v := vI a) (c := .int (Int32.ofInt a)) rfl rfl hs
  exact lv_istore_n hx hb hd rfl h3 h5 rfl (fun lsC2 hl2 => k lsC2 _ ⟨h6, _, hl2, h7⟩ hVa)
theorem o_lstore (hx : p.tables.exec = Jvm.exec) (hb : c.code = cc) {i : Nat} {a : Int} (hd : decode cc pc = .ok (.lstore i, 2)) (hL : zLR K ws ls lsC nL) (hs : zset ls i (vL a) = some ls') (hV : zvs K ws (vL a :: st) stC) (k : ∀ lsC2 stC2, zLR K ws ls' lsC2 nL → zvs K ws st stC2 → W p l e R s m args below meth c H locs cells slots Q (F0 m (pc + 2) lsC2 stC2)) : W p l e R s m args below meth c H locs cells slots Q (F0 m pc lsC stC) := by
  obtain ⟨c1, stC, rfl, h1, hVa⟩ := zvs_cons hV
  have h1 : c1 = .long (Int64.ofInt a) := h1
  subst h1
  obtain ⟨h0, L, h3, h4⟩ := hL
  obtain ⟨h5, h6, h7⟩ := zset2_ok h0 h4 (v := vL a) (c := .long (Int64.ofInt a)) rfl rfl hs
  exact lv_lstore hx hb hd h3 h5 rfl (fun lsC2 hl2 => k lsC2 _ ⟨h6, _, hl2, h7⟩ hVa)
theorem o_lstore_n (hx : p.tables.exec = Jvm.exec) (hb : c.code = cc) {n : Fin 4} {a : Int} (hd : decode cc pc = .ok (.lstore_n n, 1)) (hL : zLR K ws ls lsC nL) (hs : zset ls n.val (vL a) = some ls') (hV : zvs K ws (vL a :: st) stC) (k : ∀ lsC2 stC2, zLR K ws ls' lsC2 nL → zvs K ws st stC2 → W p l e R s m args below meth c H locs cells slots Q (F0 m (pc + 1) lsC2 stC2)) : W p l e R s m args below meth c H locs cells slots Q (F0 m pc lsC stC) := by
  obtain ⟨c1, stC, rfl, h1, hVa⟩ := zvs_cons hV
  have h1 : c1 = .long (Int64.ofInt a) := h1
  subst h1
  obtain ⟨h0, L, h3, h4⟩ := hL
  obtain ⟨h5, h6, h7⟩ := zset2_ok h0 h4 (v := vL a) (c := .long (Int64.ofInt a)) rfl rfl hs
  exact lv_lstore_n hx hb hd rfl h3 h5 rfl (fun lsC2 hl2 => k lsC2 _ ⟨h6, _, hl2, h7⟩ hVa)
theorem o_fstore (hx : p.tables.exec = Jvm.exec) (hb : c.code = cc) {i : Nat} {a : UInt32} (hd : decode cc pc = .ok (.fstore i, 2)) (hL : zLR K ws ls lsC nL) (hs : zset ls i (vF a) = some ls') (hV : zvs K ws (vF a :: st) stC) (k : ∀ lsC2 stC2, zLR K ws ls' lsC2 nL → zvs K ws st stC2 → W p l e R s m args below meth c H locs cells slots Q (F0 m (pc + 2) lsC2 stC2)) : W p l e R s m args below meth c H locs cells slots Q (F0 m pc lsC stC) := by
  obtain ⟨c1, stC, rfl, h1, hVa⟩ := zvs_cons hV
  have h1 : c1 = .float a := h1
  subst h1
  obtain ⟨h0, L, h3, h4⟩ := hL
  obtain ⟨h5, h6, h7⟩ := zset1_ok h0 h4 (v := vF a) (c := .float a) rfl rfl hs
  exact lv_fstore hx hb hd h3 h5 rfl (fun lsC2 hl2 => k lsC2 _ ⟨h6, _, hl2, h7⟩ hVa)
theorem o_dstore (hx : p.tables.exec = Jvm.exec) (hb : c.code = cc) {i : Nat} {a : UInt64} (hd : decode cc pc = .ok (.dstore i, 2)) (hL : zLR K ws ls lsC nL) (hs : zset ls i (vD a) = some ls') (hV : zvs K ws (vD a :: st) stC) (k : ∀ lsC2 stC2, zLR K ws ls' lsC2 nL → zvs K ws st stC2 → W p l e R s m args below meth c H locs cells slots Q (F0 m (pc + 2) lsC2 stC2)) : W p l e R s m args below meth c H locs cells slots Q (F0 m pc lsC stC) := by
  obtain ⟨c1, stC, rfl, h1, hVa⟩ := zvs_cons hV
  have h1 : c1 = .double a := h1
  subst h1
  obtain ⟨h0, L, h3, h4⟩ := hL
  obtain ⟨h5, h6, h7⟩ := zset2_ok h0 h4 (v := vD a) (c := .double a) rfl rfl hs
  exact lv_dstore hx hb hd h3 h5 rfl (fun lsC2 hl2 => k lsC2 _ ⟨h6, _, hl2, h7⟩ hVa)
theorem o_astore (hx : p.tables.exec = Jvm.exec) (hb : c.code = cc) {i : Nat} {v : AV} (hv : zwide v = false ∧ (∀ x, v ≠ .inl x) ∧ (∀ x, v ≠ .inr (.inr (.inr (.inl x))))) (hd : decode cc pc = .ok (.astore i, 2)) (hL : zLR K ws ls lsC nL) (hs : zset ls i v = some ls') (hV : zvs K ws (v :: st) stC) (k : ∀ lsC2 stC2, zLR K ws ls' lsC2 nL → zvs K ws st stC2 → W p l e R s m args below meth c H locs cells slots Q (F0 m (pc + 2) lsC2 stC2)) : W p l e R s m args below meth c H locs cells slots Q (F0 m pc lsC stC) := by
  obtain ⟨c1, stC, rfl, h1, hVa⟩ := zvs_cons hV
  obtain ⟨h0, L, h3, h4⟩ := hL
  obtain ⟨h5, h6, h7⟩ := zset1_ok h0 h4 (v := v) (c := c1) h1 hv.1 hs
  rcases zvr_ref hv h1 with h8 | ⟨a, h8⟩
  · subst h8
    exact lv_astoreN hx hb hd h3 h5 rfl (fun lsC2 hl2 => k lsC2 _ ⟨h6, _, hl2, h7⟩ hVa)
  · subst h8
    exact lv_astore hx hb hd h3 h5 rfl (fun lsC2 hl2 => k lsC2 _ ⟨h6, _, hl2, h7⟩ hVa)
theorem o_astore_n (hx : p.tables.exec = Jvm.exec) (hb : c.code = cc) {n : Fin 4} {v : AV} (hv : zwide v = false ∧ (∀ x, v ≠ .inl x) ∧ (∀ x, v ≠ .inr (.inr (.inr (.inl x))))) (hd : decode cc pc = .ok (.astore_n n, 1)) (hL : zLR K ws ls lsC nL) (hs : zset ls n.val v = some ls') (hV : zvs K ws (v :: st) stC) (k : ∀ lsC2 stC2, zLR K ws ls' lsC2 nL → zvs K ws st stC2 → W p l e R s m args below meth c H locs cells slots Q (F0 m (pc + 1) lsC2 stC2)) : W p l e R s m args below meth c H locs cells slots Q (F0 m pc lsC stC) := by
  obtain ⟨c1, stC, rfl, h1, hVa⟩ := zvs_cons hV
  obtain ⟨h0, L, h3, h4⟩ := hL
  obtain ⟨h5, h6, h7⟩ := zset1_ok h0 h4 (v := v) (c := c1) h1 hv.1 hs
  rcases zvr_ref hv h1 with h8 | ⟨a, h8⟩
  · subst h8
    exact lv_astore_nN hx hb hd rfl h3 h5 rfl (fun lsC2 hl2 => k lsC2 _ ⟨h6, _, hl2, h7⟩ hVa)
  · subst h8
    exact lv_astore_n hx hb hd rfl h3 h5 rfl (fun lsC2 hl2 => k lsC2 _ ⟨h6, _, hl2, h7⟩ hVa)
theorem o_iinc (hx : p.tables.exec = Jvm.exec) (hb : c.code = cc) {i : Nat} {a d : Int} (hd : decode cc pc = .ok (.iinc i d, 3)) (hL : zLR K ws ls lsC nL) (hl : ls.getD i none = some (vI a)) (hs : zset ls i (vI (a + d)) = some ls') (hV : zvs K ws st stC) (k : ∀ lsC2 stC2, zLR K ws ls' lsC2 nL → zvs K ws st stC2 → W p l e R s m args below meth c H locs cells slots Q (F0 m (pc + 3) lsC2 stC2)) : W p l e R s m args below meth c H locs cells slots Q (F0 m pc lsC stC) := by
  obtain ⟨h0, L, h3, h4⟩ := hL
  obtain ⟨h5, h6, h7⟩ := zset1_ok h0 h4 (v := vI (a + d)) (c := .int (Int32.ofInt (a + d))) rfl rfl hs
  rw [List.getD_eq_getElem?_getD] at hl
  cases hj : ls[i]? with
  | none => rw [hj] at hl; cases hl
  | some w =>
    rw [hj] at hl
    simp at hl
    subst hl
    obtain ⟨c2, h8, h9⟩ := h4 i _ hj
    have h8 : c2 = .int (Int32.ofInt a) := h8
    subst h8
    obtain ⟨kk, hkk⟩ := List.getElem?_of_mem h9
    exact lv_iinc (k := kk) hx hb hd h3 hkk (by rw [Int32.ofInt_add]) h5 rfl (fun lsC2 hl2 => k lsC2 _ ⟨h6, _, hl2, h7⟩ hV)
end OPS2
