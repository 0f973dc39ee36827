def zusP : List (List Nat) := [[239, 241, 243], [197, 199, 201, 203], [170, 172, 174, 176, 178, 180, 182], [251, 253, 255], [123, 125], [276, 278, 280, 282, 284, 286, 288, 290, 292, 294, 296, 298, 300, 302, 304, 306, 308], [1384, 1386, 1388, 1390, 1392, 1394, 1396, 1398, 1400, 1402, 1404, 1406, 1408, 1410, 1412, 1414, 1416, 1418, 1420, 1422, 1424, 1426, 1428], [152, 148, 150]]
def zsfP : Nat := 147
def zinP2 : List Nat := [86, 84, 83, 85, 78, 77, 87, 82]
def zinP1 : List Nat := [215, 186, 156, 207, 113, 105, 1350, 130]
def zfT (T : u_T) (k : Nat) : FieldType := (parseFieldDescriptor (T k).2.2.1).getD .int
/-- a field's kind, by its type -/
def zkd (t : FieldType) : Nat := match t with
  | .int => 0
  | .char => 1
  | _ => 2
def zisr (t : FieldType) : Bool := match t with
  | .object _ => true
  | .array _ => true
  | _ => false
def zckC (ci : Nat) : Bool := match zcl[ci]? with
  | some (C, T, N) => (List.range N).all (fun k => match (zusP.getD ci [])[k]? with | some i => zat i (u_lay C T k) | none => false) &&
      (List.range N).all (fun k => decide (parseFieldDescriptor (T k).2.2.1 = some (zfT T k)) && (decide (zfT T k = .int) || decide (zfT T k = .char) || zisr (zfT T k))) &&
      (List.range N).all (fun a => (List.range N).all (fun b => decide (a = b) || decide ((T a).2.1 ≠ (T b).2.1))) &&
      zat (zinP1.getD ci 0) (.instantiable C N) && zat (zinP2.getD ci 0) (.initialized C) && decide ((zfks ci).length = N) && decide (C = zcn ci) &&
      (List.range N).all (fun k => decide ((zfks ci)[k]? = some (zkd (zfT T k))))
  | none => false
set_option maxRecDepth 100000 in
theorem zckC_all : (List.range 8).all zckC = true := by decide +kernel
theorem zcl_lt {ci : Nat} {r : vw_C} (h : zcl[ci]? = some r) : ci < 8 := (List.getElem?_eq_some_iff.mp h).1
/-- what the tables say of a class -/
theorem zcl_ok {ci : Nat} {C : String} {T : u_T} {N : Nat} (h : zcl[ci]? = some (C, T, N)) : (∀ w ∈ u_ws C T N, w ∈ zW) ∧ (∀ k, k < N → parseFieldDescriptor (T k).2.2.1 = some (zfT T k)) ∧ (∀ k, k < N → zfT T k = .int ∨ zfT T k = .char ∨ zisr (zfT T k) = true) ∧ (∀ a, a < N → ∀ b, b < N → a ≠ b → (T a).2.1 ≠ (T b).2.1) ∧ Jvm.Cond.instantiable C N ∈ zW ∧ Jvm.Cond.initialized C ∈ zW ∧ (zfks ci).length = N ∧ C = zcn ci ∧ ∀ k, k < N → (zfks ci)[k]? = some (zkd (zfT T k)) := by
  have h1 := List.all_eq_true.mp zckC_all ci (List.mem_range.mpr (zcl_lt h))
  unfold zckC at h1
  rw [h] at h1
  simp only [Bool.and_eq_true, decide_eq_true_eq, List.all_eq_true, List.mem_range, Bool.or_eq_true] at h1
  obtain ⟨⟨⟨⟨⟨⟨⟨a1, a2⟩, a3⟩, a4⟩, a5⟩, a6⟩, a7⟩, a8⟩ := h1
  refine ⟨fun w hw => ?_, fun k hk => (a2 k hk).1, fun k hk => ?_, fun a ha b hb hab => ?_, zat_mem a4, zat_mem a5, a6, a7, a8⟩
  · unfold u_ws at hw
    obtain ⟨k, hk, rfl⟩ := List.mem_map.mp hw
    have h2 := a1 k (List.mem_range.mp hk)
    split at h2
    · exact zat_mem h2
    · cases h2
  · rcases (a2 k hk).2 with (h3 | h3) | h3
    · exact Or.inl h3
    · exact Or.inr (Or.inl h3)
    · exact Or.inr (Or.inr h3)
  · rcases a3 a ha b hb with h3 | h3
    · exact absurd h3 hab
    · exact h3
-- field links
def zfref (o idx ci k : Nat) : String := if o = 7 ∧ idx = 63 then "java/util/ArrayList" else match zcl[ci]? with
  | some (_, T, _) => (T k).1
  | none => ""
def zflw (q : Nat × Nat × Nat × Nat × Bool) : Jvm.Cond := match zcl[q.2.2.1]? with
  | some (_, T, _) => if q.2.2.2.2 = true then .fieldLinkNest (zcn q.1) q.2.1 (zfref q.1 q.2.1 q.2.2.1 q.2.2.2.1) (T q.2.2.2.1).2.1 (T q.2.2.2.1).2.2.1 "Shortsign" else .fieldLink (zcn q.1) q.2.1 (zfref q.1 q.2.1 q.2.2.1 q.2.2.2.1) (T q.2.2.2.1).2.1 (T q.2.2.2.1).2.2.1
  | none => .tt
set_option maxRecDepth 100000 in
theorem zflw_all : (zflL.zip zflP).all (fun q => zat q.2 (zflw q.1) && (match zcl[q.1.2.2.1]? with | some r => decide (q.1.2.2.2.1 < r.2.2) && (if q.1.1 = 7 ∧ q.1.2.1 = 63 then decide ((r.2.1 q.1.2.2.2.1).1 = "java/util/AbstractList" ∧ (r.2.1 q.1.2.2.2.1).2.1 = "modCount" ∧ (r.2.1 q.1.2.2.2.1).2.2.1 = "I") else true) | none => false)) = true := by decide +kernel
set_option maxRecDepth 100000 in
theorem zfl_len : zflL.length = zflP.length := by decide +kernel
set_option maxRecDepth 100000 in
theorem zsf_ok : zat zsfP (.sameField "java/util/ArrayList" "java/util/AbstractList" "modCount" "I") = true := by decide +kernel
theorem zip_at {α β : Type} {l : List α} {l2 : List β} (hl : l.length = l2.length) {e : α} (h : e ∈ l) : ∃ i, (e, i) ∈ l.zip l2 := by
  obtain ⟨k, hk, he⟩ := List.getElem_of_mem h
  refine ⟨l2[k]'(by omega), ?_⟩
  subst he
  exact List.mem_iff_getElem.mpr ⟨k, by simp; omega, by simp⟩
/-- a field's link -/
theorem zfl_ok {o idx ci k : Nat} (h : zfl o idx ci k = true) : ∃ C T N, zcl[ci]? = some (C, T, N) ∧ k < N ∧ (Jvm.Cond.fieldLink (zcn o) idx (zfref o idx ci k) (T k).2.1 (T k).2.2.1 ∈ zW ∨ Jvm.Cond.fieldLinkNest (zcn o) idx (zfref o idx ci k) (T k).2.1 (T k).2.2.1 "Shortsign" ∈ zW) ∧
    (∀ (s : State), (∀ w ∈ zW, ∀ a, w.before a s = true) → ∀ x, s.fieldFound? (T k).1 (T k).2.1 (T k).2.2.1 = some x → s.fieldFound? (zfref o idx ci k) (T k).2.1 (T k).2.2.1 = some x) := by
  unfold zfl at h
  obtain ⟨⟨o', idx', ci', k', nest⟩, he, h2⟩ := List.any_eq_true.mp h
  simp only [Bool.and_eq_true, beq_iff_eq] at h2
  obtain ⟨⟨⟨rfl, rfl⟩, rfl⟩, rfl⟩ := h2
  obtain ⟨i, hi⟩ := zip_at zfl_len he
  have h3 := List.all_eq_true.mp zflw_all _ hi
  simp only [Bool.and_eq_true] at h3
  obtain ⟨h3, h4⟩ := h3
  cases hc : zcl[ci']? with
  | none => simp [hc] at h4
  | some r =>
    obtain ⟨C, T, N⟩ := r
    simp only [hc, Bool.and_eq_true, decide_eq_true_eq] at h4
    have h5 := zat_mem h3
    unfold zflw at h5
    simp only [hc] at h5
    refine ⟨C, T, N, rfl, h4.1, ?_, fun s hs x hx => ?_⟩
    · split at h5
      · exact Or.inr h5
      · exact Or.inl h5
    · unfold zfref
      by_cases h6 : o' = 7 ∧ idx' = 63
      · rw [if_pos h6]
        have h7 := h4.2
        rw [if_pos h6] at h7
        simp only [decide_eq_true_eq] at h7
        rw [h7.1, h7.2.1, h7.2.2] at hx
        rw [h7.2.1, h7.2.2]
        exact u_same (args := #[]) (hs _ (zat_mem zsf_ok) #[]) x hx
      · rw [if_neg h6]
        simp only [hc]
        exact hx
