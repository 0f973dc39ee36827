/-! what the tables say of the methods -/
theorem zml_len : zmlL.length = zmlP.length := by decide +kernel
theorem zml_ok {o idx y k : Nat} (h : zml o idx y k = true) : zmlw (o, idx, y, k) ∈ zW := by
  unfold zml at h
  obtain ⟨⟨o', idx', y', k'⟩, he, h2⟩ := List.any_eq_true.mp h
  simp only [Bool.and_eq_true, beq_iff_eq] at h2
  obtain ⟨⟨⟨rfl, rfl⟩, rfl⟩, rfl⟩ := h2
  obtain ⟨i, hi⟩ := zip_at zml_len he
  exact zat_mem (List.all_eq_true.mp zckL_all _ hi)
def zws (y : Nat) : List Jvm.Cond := zcw y :: zW
theorem zcw_good (y : Nat) : zgood (zcw y) = true := by
  unfold zcw
  split <;> rfl
theorem zcw_mem {y : Nat} (hy : y < 295) : zcw y ∈ zW := zW_mem (zcw_of hy (List.all_eq_true.mp zck_1 y (List.mem_range.mpr hy))) (zcw_good y)
/-- of a method -/
theorem zM_ok {y : Nat} (hy : y < 295) : zcw y ∈ zW ∧ Jvm.Cond.initialized (zyn y).cls ∈ zW ∧ (zst y = true → Jvm.Cond.static (zyn y) ∈ zW) ∧ (zst y = false → Jvm.Cond.instanceMethod (zyn y) ∈ zW) ∧ ((zyn y).cls ≠ "java/lang/invoke/MethodHandle" ∧ (zyn y).cls ≠ "java/lang/invoke/VarHandle") ∧ (parseMethodDescriptor (zyn y).desc).map (fun d => d.parameters.length) = some (zna y) ∧ plainName (zyn y).cls = true ∧ zcn (zow y) = (zyn y).cls ∧ zmxl y ≤ 40 := by
  have hm := List.mem_range.mpr hy
  have h2 := List.all_eq_true.mp zck_2 y hm
  have h3 := List.all_eq_true.mp zck_3 y hm
  have h4 := List.all_eq_true.mp zck_4 y hm
  have h5 := List.all_eq_true.mp zck_5 y hm
  have h6 := List.all_eq_true.mp zck_6 y hm
  have h7 := List.all_eq_true.mp zck_7 y hm
  simp only [Bool.and_eq_true, decide_eq_true_eq] at h4 h5 h7
  refine ⟨zcw_mem hy, zat_mem h2, fun h => ?_, fun h => ?_, h4, h5, h6, h7.1, h7.2⟩
  · simp only [h, if_true] at h3
    exact zat_mem h3
  · simp only [h, Bool.false_eq_true, if_false] at h3
    exact zat_mem h3
theorem zM_len {y : Nat} (hy : y < 295) : ∀ sig, parseMethodDescriptor (zyn y).desc = some sig → zna y = sig.parameters.length := fun sig h => by
  have h2 := (zM_ok hy).2.2.2.2.2.1
  rw [h] at h2
  exact (Option.some.inj h2).symm
theorem zclP_len : zclL.length = zclP.length := by decide +kernel
set_option maxRecDepth 100000 in
theorem zclw_all : (zclL.zip zclP).all (fun q => zat q.2 (.classLink (zcn q.1.1) q.1.2.1 q.1.2.2)) = true := by decide +kernel
theorem zclk_ok {o idx : Nat} {n : String} (h : zclk o idx n = true) : Jvm.Cond.classLink (zcn o) idx n ∈ zW := by
  unfold zclk at h
  obtain ⟨⟨o', idx', n'⟩, he, h2⟩ := List.any_eq_true.mp h
  simp only [Bool.and_eq_true, beq_iff_eq] at h2
  obtain ⟨⟨rfl, rfl⟩, rfl⟩ := h2
  obtain ⟨i, hi⟩ := zip_at zclP_len he
  exact zat_mem (List.all_eq_true.mp zclw_all _ hi)
theorem zmtP_len : zmtL.length = zmtP.length := by decide +kernel
set_option maxRecDepth 100000 in
theorem zmtw_all : (zmtL.zip zmtP).all (fun q => decide (q.1.2.2 ≤ 1) && zat q.2 (.methodLink (zcn q.1.1) q.1.2.1 (if q.1.2.2 = 0 then Lib.Math.max.name else Lib.Math.min.name))) = true := by decide +kernel
theorem zkjP_len : zkjL.length = zkjP.length := by decide +kernel
set_option maxRecDepth 100000 in
theorem zkjw_all : (zkjL.zip zkjP).all (fun q => zat q.2 (.constantLong (zcn q.1.1) q.1.2.1 (Int64.ofInt q.1.2.2))) = true := by decide +kernel
theorem zkiP_len : zkiL.length = zkiP.length := by decide +kernel
set_option maxRecDepth 100000 in
theorem zkiw_all : (zkiL.zip zkiP).all (fun q => zat q.2 (.constant (zcn q.1.1) q.1.2.1 (Int32.ofInt q.1.2.2))) = true := by decide +kernel
set_option maxRecDepth 100000 in
/-- a method's handlers: a class that is caught later isn't one that is caught before -/
theorem zhh_apart : (List.range 295).all (fun y => (List.range (zhh y).length).all (fun j => (List.range j).all (fun i => zclL.all (fun e1 => zclL.all (fun e2 => !(e1.1 == zow y && e1.2.1 == ((zhh y).getD i (0, 0, 0, 0)).2.2.2 && e2.1 == zow y && e2.2.1 == ((zhh y).getD j (0, 0, 0, 0)).2.2.2) || zncL.any (fun q => q.1 == e2.2.2 && q.2 == e1.2.2)))))) = true := by decide +kernel
