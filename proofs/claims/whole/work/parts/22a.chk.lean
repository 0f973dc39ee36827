/-! every step of a run is the machine's -/
/-- a written number that a byte doesn't hold stands as a short -/
def zckI1 (y : Nat) (q : AI) : Bool := match q.2.1 with
  | .iconst c => decide (-128 ≤ c ∧ c < 128) || (decide (-32768 ≤ c ∧ c < 32768) && decide (decode (zby y) q.1 = .ok (.sipush c, 3)))
  | _ => true
set_option maxRecDepth 100000 in
theorem zckI_all : (List.range 296).all (fun y => (zpg.getD y []).all (fun b => b.all (zckI1 y))) = true := by decide +kernel
theorem zckI_block {y L : Nat} (hy : y < 296) : (zprog y L).all (zckI1 y) = true := by
  rcases zprog_mem y L with h1 | h1
  · rw [h1]; rfl
  · exact List.all_eq_true.mp (List.all_eq_true.mp zckI_all y (List.mem_range.mpr hy)) _ h1
def zckS1 (y : Nat) (q : AI) : Bool := match q.2.1 with
  | .invokespecial _ => (match q.2.2 with | [] => true | _ => decide (zhh y = []))
  | _ => true
set_option maxRecDepth 100000 in
theorem zckS_all : (List.range 296).all (fun y => (zpg.getD y []).all (fun b => b.all (zckS1 y))) = true := by decide +kernel
theorem zckS_block {y L : Nat} (hy : y < 296) : (zprog y L).all (zckS1 y) = true := by
  rcases zprog_mem y L with h1 | h1
  · rw [h1]; rfl
  · exact List.all_eq_true.mp (List.all_eq_true.mp zckS_all y (List.mem_range.mpr hy)) _ h1
theorem zck1_dec {y pc : Nat} {i : Instr} {x : List Nat} {r : List AI} (hn : i ≠ .nop) (ha : i ≠ .athrow) (h : zck1 y pc i x r = true) : ∃ i' len, decode (zby y) pc = .ok (i', len) ∧ zmat y pc i' len i x r = true := by
  unfold zck1 at h
  split at h
  · exact absurd rfl hn
  · exact absurd rfl ha
  · split at h
    · rename_i i' len hd
      exact ⟨i', len, hd, h⟩
    · cases h
theorem z8_of {c : Int} (h : -128 ≤ c ∧ c < 128) : (Int8.ofInt c).toInt32 = Int32.ofInt c := by
  apply Int32.toInt_inj.mp
  rw [Int8.toInt_toInt32, z32_toInt, nrm_id (by omega) (by omega), Int8.toInt_ofInt]
  show Int.bmod c 256 = c
  exact Int.bmod_eq_of_le (by omega) (by omega)
theorem z16_of {c : Int} (h : -32768 ≤ c ∧ c < 32768) : (Int16.ofInt c).toInt32 = Int32.ofInt c := by
  apply Int32.toInt_inj.mp
  rw [Int16.toInt_toInt32, z32_toInt, nrm_id (by omega) (by omega), Int16.toInt_ofInt]
  show Int.bmod c 65536 = c
  exact Int.bmod_eq_of_le (by omega) (by omega)
theorem zgo_ok {y pc : Nat} {off : Int} {l : Nat} (h : zgo y pc off l = true) : (pc : Int) + off = (hdp (zprog y l) : Int) := by
  unfold zgo at h
  exact of_decide_eq_true h

def zckQ1 (y : Nat) (q : AI) : Bool := zckP1 y q && zckI1 y q && zckS1 y q
theorem zQ_block {y L : Nat} (hy : y < 296) : zckB y (zprog y L) = true ∧ (zprog y L).all (zckQ1 y) = true := by
  have h1 := zB_block (L := L) hy
  have h2 := zckI_block (L := L) hy
  have h4 := zckS_block (L := L) hy
  refine ⟨h1.1, ?_⟩
  rw [List.all_eq_true] at h2 h4 ⊢
  have h3 := List.all_eq_true.mp h1.2
  intro q hq
  unfold zckQ1
  rw [h3 q hq, h2 q hq, h4 q hq]
  rfl
theorem zki_ok {o idx v : Nat} (h : zkiL.any (fun e => e.1 == o && e.2.1 == idx && decide (e.2.2 = ((v : Nat) : Int))) = true) : Jvm.Cond.constant (zcn o) idx (Int32.ofInt (v : Int)) ∈ zW := by
  obtain ⟨⟨o', idx', v'⟩, he, h2⟩ := List.any_eq_true.mp h
  simp only [Bool.and_eq_true, beq_iff_eq, decide_eq_true_eq] at h2
  obtain ⟨⟨rfl, rfl⟩, h3⟩ := h2
  obtain ⟨i, hi⟩ := zip_at zkiP_len he
  have h4 := zat_mem (List.all_eq_true.mp zkiw_all _ hi)
  rw [← h3]
  exact h4
theorem zkj_ok {o idx : Nat} {v : Int} (h : zkjL.any (fun e => e.1 == o && e.2.1 == idx && decide (e.2.2 = v)) = true) : Jvm.Cond.constantLong (zcn o) idx (Int64.ofInt v) ∈ zW := by
  obtain ⟨⟨o', idx', v'⟩, he, h2⟩ := List.any_eq_true.mp h
  simp only [Bool.and_eq_true, beq_iff_eq, decide_eq_true_eq] at h2
  obtain ⟨⟨rfl, rfl⟩, h3⟩ := h2
  obtain ⟨i, hi⟩ := zip_at zkjP_len he
  have h4 := zat_mem (List.all_eq_true.mp zkjw_all _ hi)
  rw [← h3]
  exact h4
/-- the same sizes -/
def zsame (h h' : Hp) : Prop := zCn h' = zCn h ∧ zSz h' = zSz h
theorem zwr_sz {h h' : Hp} (hz : zsame h h') : zCn h' = zCn h ∧ zSz h' = zSz h := hz
theorem zsame_set {h : Hp} {a : Nat} {c c' : AC} (hc : h.1[a]? = some c) (he : zszc c' = zszc c) : zsame h (h.1.set a c', h.2) := by
  refine ⟨by simp [zCn], ?_⟩
  show _ + 6 * h.2 = _
  rw [zsum_set hc he]
  rfl
theorem zle_wrF2 {h h' : Hp} {a ci k : Nat} {v : AV} (hr : wrF h a ci k v = some h') : zsame h h' := by
  obtain ⟨fs, hc, hk, rfl⟩ := wrF_spec hr
  exact zsame_set hc (by simp [zszc])
theorem zle_wrI2 {h h' : Hp} {a t : Nat} {i v : Int} (hr : wrI h a t i v = some h') : zsame h h' := by
  obtain ⟨xs, hc, -, -, -, rfl⟩ := wrI_spec hr
  exact zsame_set hc (by simp [zszc])
theorem zle_wrL2 {h h' : Hp} {a : Nat} {i v : Int} (hr : wrL h a i v = some h') : zsame h h' := by
  obtain ⟨xs, hc, -, -, -, rfl⟩ := wrL_spec hr
  exact zsame_set hc (by simp [zszc])
theorem zle_wrD2 {h h' : Hp} {a : Nat} {i : Int} {v : UInt64} (hr : wrD h a i v = some h') : zsame h h' := by
  obtain ⟨xs, hc, -, -, -, rfl⟩ := wrD_spec hr
  exact zsame_set hc (by simp [zszc])
theorem zle_wrQ2 {h h' : Hp} {a : Nat} {i : Int} {v : Option Nat} (hr : wrQ h a i v = some h') : zsame h h' := by
  obtain ⟨t, xs, hc, -, -, -, -, rfl⟩ := wrQ_spec hr
  exact zsame_set hc (by simp [zszc])
theorem zapp1 (h : Hp) (c : AC) : zCn (h.1 ++ [c], h.2) = zCn h + 1 ∧ zSz (h.1 ++ [c], h.2) = zSz h + zszc c := by
  refine ⟨by simp [zCn]; omega, ?_⟩
  simp only [zSz, List.map_append, List.sum_append, List.map_cons, List.map_nil, List.sum_cons, List.sum_nil]
  omega
theorem zckP1_lst {y pc : Nat} {i0 : Nat} {x : List Nat} (h : zckP1 y (pc, .putfield i0, x) = true) : zckP1 y (pc, .putfield 0, [x.getD 0 0, x.getD 1 0, x.getD 2 0]) = true := h
theorem zput_fit {o idx ci k kd : Nat} {K : ZK} {ws : va_W} {C : String} {T : u_T} {N : Nat} {v : AV} {cv : Value} (hf : zfl o idx ci k = true) (hfk : (zfks ci)[k]? = some kd) (hC : zcl[ci]? = some (C, T, N)) (hcv : zvr K ws v cv) (h : (∃ x, v = vI x ∧ (kd = 0 ∨ (kd = 1 ∧ 0 ≤ x ∧ x < 65536))) ∨ (((∃ r, v = vR r) ∨ v = vM 1) ∧ kd = 2)) : narrow (zfT T k) cv = cv ∧ fits (zfT T k) cv = true := by
  obtain ⟨-, -, hkind, -, -, -, hlen, -, hks⟩ := zcl_ok hC
  have hk : k < N := by rw [← hlen]; exact (List.getElem?_eq_some_iff.mp hfk).1
  have h1 := hks k hk
  rw [hfk] at h1
  have h2 : kd = zkd (zfT T k) := Option.some.inj h1
  refine zfit_ok hcv ?_
  rcases hkind k hk with h3 | h3 | h3
  · rw [h3] at h2
    have h2 : kd = 0 := h2
    rcases h with ⟨x, rfl, -⟩ | ⟨-, h4⟩
    · exact Or.inl ⟨h3, x, rfl⟩
    · omega
  · rw [h3] at h2
    have h2 : kd = 1 := h2
    rcases h with ⟨x, rfl, h4 | h4⟩ | ⟨-, h4⟩
    · omega
    · exact Or.inr (Or.inl ⟨h3, x, rfl, h4.2⟩)
    · omega
  · have h4 : zkd (zfT T k) = 2 := by
      revert h3
      generalize zfT T k = ty
      intro h3
      cases ty <;> simp [zisr] at h3 <;> rfl
    rcases h with ⟨x, rfl, h5 | h5⟩ | ⟨h5, -⟩
    · omega
    · omega
    · exact Or.inr (Or.inr ⟨h3, h5⟩)
theorem znar_ret {a : Int} {k : Nat} (h : k = 0 ∨ (k = 1 ∧ 0 ≤ a ∧ a < 65536) ∨ (k = 2 ∧ (a = 0 ∨ a = 1))) (hk : k ≤ 2) : narrow (match k with | 0 => FieldType.int | 1 => .char | _ => .boolean) (.int (Int32.ofInt a)) = .int (Int32.ofInt a) := by
  rcases h with rfl | ⟨rfl, h0, h1⟩ | ⟨rfl, rfl | rfl⟩
  · rfl
  · have e1 : Int32.ofInt a = nI a.toNat := by
      apply Int32.toInt_inj.mp
      rw [z32_toInt, nI_toInt (by omega), nrm_id (by omega) (by omega)]
      omega
    rw [e1]
    exact (pk_charN (by omega)).1
  · rfl
  · rfl

