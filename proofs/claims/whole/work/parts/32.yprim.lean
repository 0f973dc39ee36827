/-! the rows' least methods, on the first machine; and: what the second machine answers, the first does -/
theorem nrm_zr {x : Int} (h : zrB x = true) : nrm x = x := by
  have := of_decide_eq_true h
  exact nrm_id this.1 this.2
theorem zrB_n {n : Nat} (h : n < 1000000) : zrB (n : Int) = true := zrB_t (by omega) (by omega)
section
variable {scr : List Int} {m pc : Nat} {r : List AI} {ls : Lc} {st : Sk} {h h' : Hp} {P : Rs → Prop}
theorem px_getfield {i0 a : Nat} {x : List Nat} {v : AV} (hr : rdF h a (x.getD 0 0) (x.getD 1 0) = some v) (k : Px scr m r ls (v :: st) h P) : Px scr m ((pc, .getfield i0, x) :: r) ls (vR (some a) :: st) h P :=
  px_s (fun rec => by show (rdF h a (x.getD 0 0) (x.getD 1 0)).bind _ = _; rw [hr]; rfl) k
theorem px_putI {i0 a : Nat} {x : List Nat} {v : Int} (hx : x.getD 2 0 = 0) (hr : wrF h a (x.getD 0 0) (x.getD 1 0) (vI v) = some h') (k : Px scr m r ls st h' P) : Px scr m ((pc, .putfield i0, x) :: r) ls (vI v :: vR (some a) :: st) h P :=
  px_s (fun rec => by show (if _ then _ else _) = _; rw [if_pos (Or.inl hx), hr]; rfl) k
theorem px_putR {i0 a : Nat} {x : List Nat} {v : Option Nat} (hx : x.getD 2 0 = 2) (hr : wrF h a (x.getD 0 0) (x.getD 1 0) (vR v) = some h') (k : Px scr m r ls st h' P) : Px scr m ((pc, .putfield i0, x) :: r) ls (vR v :: vR (some a) :: st) h P :=
  px_s (fun rec => by show (if _ then _ else _) = _; rw [if_pos hx, hr]; rfl) k
theorem px_iald {a : Nat} {x : List Nat} {i v : Int} (hr : rdI h a 0 i = some v) (k : Px scr m r ls (vI v :: st) h P) : Px scr m ((pc, .iaload, x) :: r) ls (vI i :: vR (some a) :: st) h P :=
  px_s (fun rec => by show (rdI h a 0 i).bind _ = _; rw [hr]; rfl) k
theorem px_iast {a : Nat} {x : List Nat} {i v : Int} (hr : wrI h a 0 i v = some h') (k : Px scr m r ls st h' P) : Px scr m ((pc, .iastore, x) :: r) ls (vI v :: vI i :: vR (some a) :: st) h P :=
  px_s (fun rec => by show (wrI h a 0 i v).bind _ = _; rw [hr]; rfl) k
theorem px_alen {a : Nat} {x : List Nat} {v : Int} (hr : zlen h a = some v) (k : Px scr m r ls (vI v :: st) h P) : Px scr m ((pc, .arraylength, x) :: r) ls (vR (some a) :: st) h P :=
  px_s (fun rec => by show (zlen h a).bind _ = _; rw [hr]; rfl) k
theorem px_ifT {c : Jvm.ClassFile.Cond} {o a : Int} {x : List Nat} (hz : zjmp c (nrm a) 0 = true) (k : Px scr m (zprog m (x.getD 0 0)) ls st h P) : Px scr m ((pc, .ifCond c o, x) :: r) ls (vI a :: st) h P :=
  px_s (fun rec => if_pos hz) k
theorem px_ifF {c : Jvm.ClassFile.Cond} {o a : Int} {x : List Nat} (hz : zjmp c (nrm a) 0 = false) (k : Px scr m r ls st h P) : Px scr m ((pc, .ifCond c o, x) :: r) ls (vI a :: st) h P :=
  px_s (fun rec => if_neg (by rw [hz]; decide)) k
theorem px_icT {c : Jvm.ClassFile.Cond} {o a b : Int} {x : List Nat} (hz : zjmp c (nrm a) (nrm b) = true) (k : Px scr m (zprog m (x.getD 0 0)) ls st h P) : Px scr m ((pc, .if_icmp c o, x) :: r) ls (vI b :: vI a :: st) h P :=
  px_s (fun rec => if_pos hz) k
theorem px_icF {c : Jvm.ClassFile.Cond} {o a b : Int} {x : List Nat} (hz : zjmp c (nrm a) (nrm b) = false) (k : Px scr m r ls st h P) : Px scr m ((pc, .if_icmp c o, x) :: r) ls (vI b :: vI a :: st) h P :=
  px_s (fun rec => if_neg (by rw [hz]; decide)) k
theorem rdF_at {a c k : Nat} {fs : List AV} {v : AV} (hc : h.1[a]? = some (cO c fs)) (hv : fs[k]? = some v) : rdF h a c k = some v := by
  unfold rdF
  rw [hc]
  simp [hv]
theorem wrF_at {a c k : Nat} {fs : List AV} {v : AV} (hc : h.1[a]? = some (cO c fs)) (hk : k < fs.length) : wrF h a c k v = some (h.1.set a (cO c (fs.set k v)), h.2) := by
  unfold wrF
  rw [hc]
  simp [hk]
theorem rdI_at {a t : Nat} {xs : List Int} {i : Int} (hc : h.1[a]? = some (cI t xs)) (h0 : 0 ≤ i) (h1 : i < (xs.length : Int)) (h2 : i < 2147483648) : rdI h a t i = some (xs.getD i.toNat 0) := by
  unfold rdI
  rw [hc]
  have : i.toNat < xs.length := by omega
  simp [h0, h1, h2, List.getD_eq_getElem?_getD, this]
theorem wrI_at {a t : Nat} {xs : List Int} {i v : Int} (hc : h.1[a]? = some (cI t xs)) (h0 : 0 ≤ i) (h1 : i < (xs.length : Int)) (h2 : i < 2147483648) : wrI h a t i v = some (h.1.set a (cI t (xs.set i.toNat v)), h.2) := by
  unfold wrI
  rw [hc]
  simp [h0, h1, h2]
theorem zlen_at {a t : Nat} {xs : List Int} (hc : h.1[a]? = some (cI t xs)) : zlen h a = some (xs.length : Int) := by
  unfold zlen
  rw [hc]
theorem px_min {a b : Int} {i0 : Nat} (h8 : st.length ≤ 8) (k : Px scr m r ls (vI (if nrm b < nrm a then b else a) :: st) h P) : Px scr m ((pc, .invokestatic i0, [1]) :: r) ls (vI b :: vI a :: st) h P := px_s (fun rec => if_neg (Nat.not_lt.mpr h8)) k
theorem px_max {a b : Int} {i0 : Nat} (h8 : st.length ≤ 8) (k : Px scr m r ls (vI (if nrm a < nrm b then b else a) :: st) h P) : Px scr m ((pc, .invokestatic i0, [0]) :: r) ls (vI b :: vI a :: st) h P := px_s (fun rec => if_neg (Nat.not_lt.mpr h8)) k
theorem zlt_t {a b : Int} (h : a < b) : zjmp .lt a b = true := decide_eq_true h
theorem zlt_f {a b : Int} (h : ¬ a < b) : zjmp .lt a b = false := decide_eq_false h
theorem zge_t {a b : Int} (h : b ≤ a) : zjmp .ge a b = true := decide_eq_true h
theorem zge_f {a b : Int} (h : ¬ b ≤ a) : zjmp .ge a b = false := decide_eq_false h
theorem px_ret {a : Int} (k : P (.inl (some (vI a)), h)) : Px scr m ((pc, .ireturn, []) :: r) ls [vI a] h P := px_e (o := (.inl (some (vI a)), h)) (fun _ => by dsimp only [zstp]; exact if_pos (Or.inl rfl)) k
/-- a call on the first machine, its answer known -/
theorem px_callv {i0 y n ci : Nat} {hs : List Nat} {o : Rs} (hc : n ≤ st.length ∧ st.length ≤ n + 4 ∧ (zlay (st.take n).reverse).length ≤ zmxl y) (hrc : zrcv st h n ci = true) (hd : Px scr y (zprog y 0) (zent zmxl y (st.take n).reverse) [] h (fun q => q = o)) {v : Option AV} (ho : o.1 = .inl v) (k : Px scr m r ls (v.toList ++ st.drop n) o.2 P) : Px scr m ((pc, .invokevirtual i0, y :: n :: ci :: hs) :: r) ls st h P := by
  obtain ⟨n1, o1, h1, rfl⟩ := hd
  obtain ⟨n2, r2, h2, h3⟩ := k
  refine ⟨n1 + n2 + 1, r2, ?_, h3⟩
  simp only [zrun]
  show (if zrcv st h n ci = true then _ else none) = _
  rw [if_pos hrc]
  unfold zinv
  rw [if_pos hc, zrun_mono_le (n' := n1 + n2) (by omega) h1]
  show zbeh _ _ _ _ _ _ _ o1 = _
  unfold zbeh
  rw [ho]
  exact zrun_mono_le (by omega) h2
/-- what stands behind a row, for the walks below -/
def zrow (h : Hp) (a : Nat) (n : Nat) (ys : List Int) : Prop := h.1[a]? = some (cO 4 [vR (some (a + 1)), vI n]) ∧ h.1[a + 1]? = some (cI 0 ys) ∧ ys.length < 1000000 ∧ n ≤ ys.length
theorem k_size {a n : Nat} {ys : List Int} (H : zrow h a n ys) : Px scr 1 (zprog 1 0) (zent zmxl 1 [vR (some a)]) [] h (fun q => q = (.inl (some (vI n)), h)) := by
  refine px_s (fun _ => rfl) ?_
  refine px_getfield (rdF_at H.1 rfl) ?_
  exact px_ret rfl
theorem k_at {a n : Nat} {ys : List Int} {i : Int} (H : zrow h a n ys) (hz : zrB i = true) : Px scr 2 (zprog 2 0) (zent zmxl 2 [vR (some a), vI i]) [] h (fun q => q = (.inl (some (vI (if 0 ≤ i ∧ i < (n : Int) then ys.getD i.toNat 0 else 0))), h)) := by
  obtain ⟨h1, h2, h3, h4⟩ := H
  have e1 := nrm_zr hz
  have e2 := nrm_zr (zrB_n (n := n) (by omega))
  have e3 := nrm_zr (zrB_n (n := ys.length) (by omega))
  have hz' := of_decide_eq_true hz
  refine px_s (fun _ => rfl) ?_
  have fin0 : ¬ (0 ≤ i ∧ i < (n : Int)) → Px scr 2 (zprog 2 1) (zent zmxl 2 [vR (some a), vI i]) [] h (fun q => q = (.inl (some (vI (if 0 ≤ i ∧ i < (n : Int) then ys.getD i.toNat 0 else 0))), h)) := fun hn => by
    rw [if_neg hn]
    refine px_s (fun _ => rfl) ?_
    refine px_s (fun _ => rfl) ?_
    exact px_ret rfl
  by_cases hi : i < 0
  · exact px_ifT (by rw [e1]; exact zlt_t hi) (fin0 (by omega))
  · refine px_ifF (by rw [e1]; exact zlt_f hi) ?_
    refine px_s (fun _ => rfl) ?_
    refine px_s (fun _ => rfl) ?_
    refine px_getfield (rdF_at h1 rfl) ?_
    by_cases hn : (n : Int) ≤ i
    · exact px_icT (by rw [e1, e2]; exact zge_t hn) (fin0 (by omega))
    · refine px_icF (by rw [e1, e2]; exact zge_f hn) ?_
      refine px_s (fun _ => rfl) ?_
      refine px_s (fun _ => rfl) ?_
      refine px_getfield (rdF_at h1 rfl) ?_
      refine px_alen (zlen_at h2) ?_
      refine px_icF (by rw [e1, e3]; exact zge_f (by omega)) ?_
      refine px_s (fun _ => rfl) ?_
      refine px_getfield (rdF_at h1 rfl) ?_
      refine px_s (fun _ => rfl) ?_
      refine px_iald (rdI_at h2 (by omega) (by omega) (by omega)) ?_
      refine px_s (fun _ => rfl) ?_
      rw [if_pos ⟨by omega, by omega⟩]
      exact px_ret rfl
theorem k_put {a n : Nat} {ys : List Int} {i v : Int} (H : zrow h a n ys) (hz : zrB i = true) : Px scr 3 (zprog 3 0) (zent zmxl 3 [vR (some a), vI i, vI v]) [] h (fun q => q = (.inl none, if 0 ≤ i ∧ i < (n : Int) then (h.1.set (a + 1) (cI 0 (ys.set i.toNat v)), h.2) else h)) := by
  obtain ⟨h1, h2, h3, h4⟩ := H
  have e1 := nrm_zr hz
  have e2 := nrm_zr (zrB_n (n := n) (by omega))
  have e3 := nrm_zr (zrB_n (n := ys.length) (by omega))
  have hz' := of_decide_eq_true hz
  refine px_s (fun _ => rfl) ?_
  have fin0 : ¬ (0 ≤ i ∧ i < (n : Int)) → Px scr 3 (zprog 3 1) (zent zmxl 3 [vR (some a), vI i, vI v]) [] h (fun q => q = (.inl none, if 0 ≤ i ∧ i < (n : Int) then (h.1.set (a + 1) (cI 0 (ys.set i.toNat v)), h.2) else h)) := fun hn => by
    rw [if_neg hn]
    exact px_e (fun _ => rfl) rfl
  by_cases hi : i < 0
  · exact px_ifT (by rw [e1]; exact zlt_t hi) (fin0 (by omega))
  · refine px_ifF (by rw [e1]; exact zlt_f hi) ?_
    refine px_s (fun _ => rfl) ?_
    refine px_s (fun _ => rfl) ?_
    refine px_getfield (rdF_at h1 rfl) ?_
    by_cases hn : (n : Int) ≤ i
    · exact px_icT (by rw [e1, e2]; exact zge_t hn) (fin0 (by omega))
    · refine px_icF (by rw [e1, e2]; exact zge_f hn) ?_
      refine px_s (fun _ => rfl) ?_
      refine px_s (fun _ => rfl) ?_
      refine px_getfield (rdF_at h1 rfl) ?_
      refine px_alen (zlen_at h2) ?_
      refine px_icF (by rw [e1, e3]; exact zge_f (by omega)) ?_
      refine px_s (fun _ => rfl) ?_
      refine px_getfield (rdF_at h1 rfl) ?_
      refine px_s (fun _ => rfl) ?_
      refine px_s (fun _ => rfl) ?_
      refine px_iast (wrI_at h2 (by omega) (by omega) (by omega)) ?_
      refine px_s (fun _ => rfl) ?_
      rw [if_pos ⟨by omega, by omega⟩]
      exact px_e (fun _ => rfl) rfl
theorem k_add {a n : Nat} {ys : List Int} {v : Int} (H : zrow h a n ys) : Px scr 4 (zprog 4 0) (zent zmxl 4 [vR (some a), vI v]) [] h (fun q => q = (.inl none, if n < ys.length then ((h.1.set (a + 1) (cI 0 (ys.set n v))).set a (cO 4 [vR (some (a + 1)), vI (n + 1)]), h.2) else h)) := by
  obtain ⟨h1, h2, h3, h4⟩ := H
  have e2 := nrm_zr (zrB_n (n := n) (by omega))
  have e3 := nrm_zr (zrB_n (n := ys.length) (by omega))
  refine px_s (fun _ => rfl) ?_
  refine px_getfield (rdF_at h1 rfl) ?_
  refine px_ifF (by rw [e2]; exact zlt_f (by omega)) ?_
  refine px_s (fun _ => rfl) ?_
  refine px_getfield (rdF_at h1 rfl) ?_
  refine px_s (fun _ => rfl) ?_
  refine px_getfield (rdF_at h1 rfl) ?_
  refine px_alen (zlen_at h2) ?_
  by_cases hn : n < ys.length
  · rw [if_pos hn]
    refine px_icF (by rw [e2, e3]; exact zge_f (by omega)) ?_
    refine px_s (fun _ => rfl) ?_
    refine px_getfield (rdF_at h1 rfl) ?_
    refine px_s (fun _ => rfl) ?_
    refine px_getfield (rdF_at h1 rfl) ?_
    refine px_s (fun _ => rfl) ?_
    refine px_iast (wrI_at h2 (by omega) (by omega) (by omega)) ?_
    have h1' : (h.1.set (a + 1) (cI 0 (ys.set (n : Int).toNat v)))[a]? = some (cO 4 [vR (some (a + 1)), vI n]) := by
      rw [List.getElem?_set_ne (by omega)]; exact h1
    refine px_s (fun _ => rfl) ?_
    refine px_s (fun _ => rfl) ?_
    refine px_getfield (h := (h.1.set (a + 1) (cI 0 (ys.set (n : Int).toNat v)), h.2)) (rdF_at h1' rfl) ?_
    refine px_s (fun _ => rfl) ?_
    refine px_s (fun _ => rfl) ?_
    refine px_putI rfl (wrF_at (h := (h.1.set (a + 1) (cI 0 (ys.set (n : Int).toNat v)), h.2)) h1' (by show _ < 2; decide)) ?_
    refine px_s (fun _ => rfl) ?_
    exact px_e (fun _ => rfl) rfl
  · rw [if_neg hn]
    refine px_icT (by rw [e2, e3]; exact zge_t (by omega)) ?_
    exact px_e (fun _ => rfl) rfl
end
