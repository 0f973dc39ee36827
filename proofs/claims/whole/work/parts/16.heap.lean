/-! operations on the heap -/
/-- a field that is written isn't final, or the writer is the constructor of its own class; no such link is a nest mate's -/
def zckP1 (y : Nat) (q : AI) : Bool := match q.2.1 with
  | .putfield _ => (match zcl[q.2.2.getD 0 0]? with
    | some (_, T, _) => (decide ((T (q.2.2.getD 1 0)).2.2.2 = false) || (decide ((zyn y).name = "<init>") && decide ((T (q.2.2.getD 1 0)).1 = zcn (zow y)))) && zflL.all (fun e => !(e.1 == zow y && e.2.2.1 == q.2.2.getD 0 0 && e.2.2.2.1 == q.2.2.getD 1 0) || !e.2.2.2.2)
    | none => false)
  | _ => true
set_option maxRecDepth 100000 in
theorem zckP_all : (List.range 296).all (fun y => (zpg.getD y []).all (fun b => b.all (zckP1 y))) = true := by decide +kernel
theorem zfl_link {o idx ci k : Nat} {C : String} {T : u_T} {N : Nat} (hC : zcl[ci]? = some (C, T, N)) (h : zfl o idx ci k = true) (hn : zflL.all (fun e => !(e.1 == o && e.2.2.1 == ci && e.2.2.2.1 == k) || !e.2.2.2.2) = true) : Jvm.Cond.fieldLink (zcn o) idx (zfref o idx ci k) (T k).2.1 (T k).2.2.1 ∈ zW := by
  unfold zfl at h
  obtain ⟨⟨o', idx', ci', k', nest⟩, he, h2⟩ := List.any_eq_true.mp h
  simp only [Bool.and_eq_true, beq_iff_eq] at h2
  obtain ⟨⟨⟨rfl, rfl⟩, rfl⟩, rfl⟩ := h2
  obtain ⟨i, hi⟩ := zip_at zfl_len he
  have h3 := List.all_eq_true.mp zflw_all _ hi
  have h4 := List.all_eq_true.mp hn _ he
  simp at h4
  simp only [Bool.and_eq_true] at h3
  have h5 := zat_mem h3.1
  unfold zflw at h5
  simp only [hC, h4] at h5
  simpa using h5
section OPS3
variable {p : Program} {l : Launch} {e : Env} {R : Room} {s : State} {m : MethodId} {args : Array Value} {below : List Frame} {meth : Method} {c : Code} {H : Heap} {locs : List Loc} {cells slots : Nat} {Q : State → Prop}
variable {cc : ByteArray} {pc : Nat} {lsC : Array Slot} {stC : List Value} {K : ZK} {ws : va_W} {st : Sk} {h h' : Hp} {y : Nat}
/-- an abstract reference that is a cell of the world -/
theorem zref_at {k : Nat} {cv : Value} (hv : zvr K ws (vR (some k)) cv) {q : Nat × va_E} (hq : ws[k]? = some q) : cv = .ref q.1 := by
  obtain ⟨q', h1, h2⟩ := hv
  rw [hq] at h1
  cases h1
  exact h2
theorem rdF_spec {a ci k : Nat} {v : AV} (hr : rdF h a ci k = some v) : ∃ fs, h.1[a]? = some (.inl (ci, fs)) ∧ fs[k]? = some v := by
  unfold rdF at hr
  split at hr
  · rename_i c' fs hc
    split at hr
    · rename_i hci
      subst hci
      exact ⟨fs, hc, hr⟩
    · cases hr
  · cases hr
theorem wrF_spec {a ci k : Nat} {v : AV} (hr : wrF h a ci k v = some h') : ∃ fs, h.1[a]? = some (.inl (ci, fs)) ∧ k < fs.length ∧ h' = (h.1.set a (.inl (ci, fs.set k v)), h.2) := by
  unfold wrF at hr
  split at hr
  · rename_i c' fs hc
    split at hr
    · rename_i hci
      obtain ⟨rfl, hk⟩ := hci
      exact ⟨fs, hc, hk, (Option.some.inj hr).symm⟩
    · cases hr
  · cases hr
theorem zobj_at (hH : zHR K ws h) {a ci : Nat} {fs : List AV} (hc : h.1[a]? = some (.inl (ci, fs))) : ∃ (q : Nat) (vs : List Value), ws[a]? = some (q, .inr (ci, vs)) ∧ zvs K ws fs vs ∧ fs.length = ((zcl[ci]?).map (fun r => r.2.2)).getD 0 := by
  obtain ⟨⟨q, e⟩, h1, vs, h2, h3, h4⟩ := hH.2 a _ hc
  dsimp only at h2
  subst h2
  exact ⟨q, vs, h1, h3, h4⟩
theorem o_getfield (hx : p.tables.exec = Jvm.exec) (hb : c.code = cc) {o idx ci k a : Nat} {v : AV} (hts : ∀ w ∈ zW, ∀ a, w.before a s = true) (hown : s.vm.findClass (zcn o) = some m.cls) (hK : va_K (zD K) zcl (ztys K) s) (hP : va_P (zD K) zcl ws H) (hH : zHR K ws h) (hl : zfl o idx ci k = true) (hr : rdF h a ci k = some v) (hd : decode cc pc = .ok (.getfield idx, 3)) (hV : zvs K ws (vR (some a) :: st) stC)
    (kk : ∀ stC2, zvs K ws (v :: st) stC2 → W p l e R s m args below meth c H locs cells slots Q (F0 m (pc + 3) lsC stC2)) : W p l e R s m args below meth c H locs cells slots Q (F0 m pc lsC stC) := by
  obtain ⟨c1, stC, rfl, h1, hVa⟩ := zvs_cons hV
  obtain ⟨fs, hc, hv⟩ := rdF_spec hr
  obtain ⟨q, vs, hq, hfs, -⟩ := zobj_at hH hc
  have h2 := zref_at h1 hq
  subst h2
  obtain ⟨cv, hcv, hvr⟩ := hfs.at k v hv
  obtain ⟨C, T, N, hC, hk, hlk, hsame⟩ := zfl_ok hl
  have hin := (zcl_ok hC).1
  rcases hlk with hlk | hlk
  · exact va_get hx hb (fun w hw => hts w hw args) hin hown hK hP a hq hC k hk (hts _ hlk args) (hsame s hts) hcv hd (kk _ ⟨hvr, hVa⟩)
  · exact va_getN hx hb (fun w hw => hts w hw args) hin hown hK hP a hq hC k hk (hts _ hlk args) (hsame s hts) hcv hd (kk _ ⟨hvr, hVa⟩)
theorem zfit_ok {ty : FieldType} {v : AV} {cv : Value} (hv : zvr K ws v cv) (h : (ty = .int ∧ ∃ x, v = vI x) ∨ (ty = .char ∧ ∃ x, v = vI x ∧ 0 ≤ x ∧ x < 65536) ∨ (zisr ty = true ∧ ((∃ r, v = vR r) ∨ v = vM 1))) : narrow ty cv = cv ∧ fits ty cv = true := by
  rcases h with ⟨rfl, x, rfl⟩ | ⟨rfl, x, rfl, h0, h1⟩ | ⟨ht, h2⟩
  · have hv : cv = .int (Int32.ofInt x) := hv
    subst hv
    exact ⟨rfl, rfl⟩
  · have hv : cv = .int (Int32.ofInt x) := hv
    subst hv
    have e1 : Int32.ofInt x = nI x.toNat := by
      apply Int32.toInt_inj.mp
      rw [z32_toInt, nI_toInt (by omega), nrm_id (by omega) (by omega)]
      omega
    rw [e1]
    exact pk_charN (by omega)
  · have h3 : cv = .null ∨ ∃ a, cv = .ref a := by
      rcases h2 with ⟨r, rfl⟩ | rfl
      · cases r with
        | none => exact Or.inl hv
        | some k => obtain ⟨q, -, hq⟩ := hv; exact Or.inr ⟨_, hq⟩
      · exact Or.inr ⟨_, hv⟩
    cases ty <;> simp [zisr] at ht <;> rcases h3 with rfl | ⟨a, rfl⟩ <;> exact ⟨rfl, rfl⟩
theorem o_putfield (hx : p.tables.exec = Jvm.exec) (hb : c.code = cc) {o idx ci k a : Nat} {v : AV} (hts : ∀ w ∈ zW, ∀ a, w.before a s = true) (hown : s.vm.findClass (zcn o) = some m.cls) (hK : va_K (zD K) zcl (ztys K) s) (hP : va_P (zD K) zcl ws H) (hD : va_D (zA K) ws) (hS : va_S (zA K) s.heap H locs) (hH : zHR K ws h) (hl : zfl o idx ci k = true) (hname : (∃ C T N, zcl[ci]? = some (C, T, N) ∧ (T k).1 = zcn (zow y)) → meth.name = (zyn y).name) (ho : o = zow y) {x2 : Nat} (hp : zckP1 y (pc, .putfield 0, [ci, k, x2]) = true)
    (hfit : ∀ C T N cv, zcl[ci]? = some (C, T, N) → zvr K ws v cv → narrow (zfT T k) cv = cv ∧ fits (zfT T k) cv = true) (hr : wrF h a ci k v = some h') (hd : decode cc pc = .ok (.putfield idx, 3)) (hV : zvs K ws (v :: vR (some a) :: st) stC)
    (kk : ∀ (ws2 : va_W) (H1 : Heap) (locs1 : List Loc) stC2, zex ws ws2 → va_P (zD K) zcl ws2 H1 → va_D (zA K) ws2 → va_S (zA K) s.heap H1 locs1 → zHR K ws2 h' → zvs K ws2 st stC2 → W p l e R s m args below meth c H1 locs1 cells slots Q (F0 m (pc + 3) lsC stC2)) : W p l e R s m args below meth c H locs cells slots Q (F0 m pc lsC stC) := by
  obtain ⟨cv, stC, rfl, hvr, hVa⟩ := zvs_cons hV
  obtain ⟨c1, stC, rfl, h1, hVb⟩ := zvs_cons hVa
  obtain ⟨fs, hc, hkl, rfl⟩ := wrF_spec hr
  obtain ⟨q, vs, hq, hfs, hlen⟩ := zobj_at hH hc
  have h2 := zref_at h1 hq
  subst h2
  obtain ⟨C, T, N, hC, hk, -, hsame⟩ := zfl_ok hl
  obtain ⟨hin, hty, -, hnm, -⟩ := zcl_ok hC
  obtain ⟨hn, hf⟩ := hfit C T N cv hC hvr
  have hkl2 : k < vs.length := by rw [← hfs.len]; exact hkl
  have hx2 := zex.set ws (e := .inr (ci, vs.set k cv)) hq
  have fin : ∀ (H1 : Heap) (locs1 : List Loc), va_P (zD K) zcl (ws.set a (q, .inr (ci, vs.set k cv))) H1 → va_D (zA K) (ws.set a (q, .inr (ci, vs.set k cv))) → va_S (zA K) s.heap H1 locs1 → W p l e R s m args below meth c H1 locs1 cells slots Q (F0 m (pc + 3) lsC stC) := fun H1 locs1 hP1 hD1 hS1 =>
    kk _ H1 locs1 stC hx2 hP1 hD1 hS1 (hH.set hq ⟨_, rfl, hfs.set k v cv hvr, by rw [List.length_set]; exact hlen⟩) (hVb.mono hx2)
  unfold zckP1 at hp
  simp only [List.getD_cons_zero, List.getD_cons_succ, hC, Bool.and_eq_true, Bool.or_eq_true, decide_eq_true_eq] at hp
  have hlk := zfl_link hC hl (by rw [ho]; exact hp.2)
  rcases hp.1 with hfin | ⟨h9, h10⟩
  · exact va_put hx hb (fun w hw => hts w hw args) hin (zfT T) hty hnm hown hK hP hD hS a hq hC k hk (hts _ hlk args) (hsame s hts) hfin (hty k hk) hn hf hkl2 hd fin
  · cases hfin : (T k).2.2.2 with
    | false => exact va_put hx hb (fun w hw => hts w hw args) hin (zfT T) hty hnm hown hK hP hD hS a hq hC k hk (hts _ hlk args) (hsame s hts) hfin (hty k hk) hn hf hkl2 hd fin
    | true => exact va_putF hx hb (fun w hw => hts w hw args) hin (zfT T) hty hnm hown hK hP hD hS a hq hC k hk (hts _ hlk args) (hsame s hts) hfin (by rw [hname ⟨_, _, _, hC, h10⟩]; exact h9) (by rw [h10, ho]) (hty k hk) hn hf hkl2 hd fin
end OPS3
