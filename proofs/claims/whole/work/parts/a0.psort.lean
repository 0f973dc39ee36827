/-! the pure part: places by rising values -/
theorem getD_get {l : List Int} {i : Nat} {d : Int} (h : i < l.length) : l.getD i d = l[i] := by
  rw [List.getD_eq_getElem?_getD, List.getElem?_eq_getElem h]
  rfl
/-- the order of places: by value, then by place -/
abbrev plt (C : List Int) (a b : Int) : Prop := yat C a < yat C b ∨ (yat C a = yat C b ∧ a < b)
abbrev srt (C O : List Int) : Prop := O.Pairwise (plt C)
theorem sRank_ok (C : List Int) (v : Int) (l : List Int) : ∀ r, r ≤ l.length → (∀ i, sRank C v l r ≤ i → i < r → v < yat C (l.getD i 0)) ∧ (0 < sRank C v l r → yat C (l.getD (sRank C v l r - 1) 0) ≤ v)
  | 0, _ => ⟨fun i _ h => by omega, fun h => by simp [sRank] at h⟩
  | r + 1, hr => by
    unfold sRank
    split
    · rename_i h1
      have ih := sRank_ok C v l r (by omega)
      refine ⟨fun i h2 h3 => ?_, ih.2⟩
      by_cases hi : i = r
      · rw [hi]; exact h1
      · exact ih.1 i h2 (by omega)
    · rename_i h1
      refine ⟨fun i h2 h3 => by omega, fun _ => ?_⟩
      rw [Nat.add_sub_cancel]
      omega
theorem sIns_srt {C l : List Int} {p : Nat} (hs : srt C l) (hl : ∀ x ∈ l, x < p) : srt C (sIns C p l) := by
  have h1 := sRank_ok C (yat C p) l l.length (Nat.le_refl _)
  have h2 := sRank_le C (yat C p) l l.length
  unfold sIns
  generalize sRank C (yat C p) l l.length = r at h1 h2 ⊢
  have hpw := List.pairwise_iff_getElem.mp hs
  unfold sh srt
  rw [List.pairwise_append]
  refine ⟨hs.sublist (List.take_sublist _ _), List.pairwise_cons.mpr ⟨fun b hb => ?_, hs.sublist (List.drop_sublist _ _)⟩, fun a ha b hb => ?_⟩
  · obtain ⟨i, hi, rfl⟩ := List.getElem_of_mem hb
    rw [List.length_drop] at hi
    rw [List.getElem_drop]
    have := h1.1 (r + i) (by omega) (by omega)
    rw [getD_get (by omega)] at this
    exact .inl this
  · rcases List.mem_cons.mp hb with rfl | hb
    · obtain ⟨i, hi, rfl⟩ := List.getElem_of_mem ha
      rw [List.length_take] at hi
      rw [List.getElem_take]
      have h3 := h1.2 (by omega)
      rw [getD_get (by omega)] at h3
      have h5 : l[i] < (p : Int) := hl _ (List.getElem_mem _)
      by_cases hir : i = r - 1
      · subst hir
        unfold plt
        omega
      · have h4 := hpw i (r - 1) (by omega) (by omega) (by omega)
        unfold plt at h4 ⊢
        omega
    · obtain ⟨i, hi, rfl⟩ := List.getElem_of_mem ha
      obtain ⟨j, hj, rfl⟩ := List.getElem_of_mem hb
      rw [List.length_take] at hi
      rw [List.length_drop] at hj
      rw [List.getElem_take, List.getElem_drop]
      exact hpw i (r + j) (by omega) (by omega) (by omega)
theorem mem_sh {l : List Int} {r : Nat} {s x : Int} : x ∈ sh l r s ↔ x = s ∨ x ∈ l := by
  unfold sh
  rw [List.mem_append, List.mem_cons]
  constructor
  · rintro (h | h | h)
    · exact .inr (List.mem_of_mem_take h)
    · exact .inl h
    · exact .inr (List.mem_of_mem_drop h)
  · rintro (h | h)
    · exact .inr (.inl h)
    · rw [← List.take_append_drop r l] at h
      rcases List.mem_append.mp h with h | h
      · exact .inl h
      · exact .inr (.inr h)
theorem sortF_ok (C : List Int) : ∀ (j p : Nat) (l : List Int), p + j = C.length → srt C l → (∀ x, x ∈ l ↔ 0 ≤ x ∧ x < p ∧ 0 < yat C x) → srt C (sortF C j p l) ∧ ∀ x, x ∈ sortF C j p l ↔ 0 ≤ x ∧ x < C.length ∧ 0 < yat C x
  | 0, p, l, hp, h1, h2 => by
    unfold sortF
    refine ⟨h1, fun x => ?_⟩
    rw [h2 x]
    omega
  | j + 1, p, l, hp, h1, h2 => by
    unfold sortF
    refine sortF_ok C j (p + 1) _ (by omega) ?_ fun x => ?_
    · split
      · exact sIns_srt h1 fun x hx => by have := (h2 x).mp hx; omega
      · exact h1
    · by_cases hxp : x = p
      · subst hxp
        split
        · rename_i h3
          unfold sIns
          rw [mem_sh]
          simp only [true_or, true_iff]
          omega
        · rename_i h3
          rw [h2]
          omega
      · split
        · unfold sIns
          rw [mem_sh, h2]
          omega
        · rw [h2]
          omega
theorem sortP_ok (C : List Int) : srt C (sortP C) ∧ ∀ x, x ∈ sortP C ↔ 0 ≤ x ∧ x < C.length ∧ 0 < yat C x := sortF_ok C C.length 0 [] (by omega) List.Pairwise.nil (fun x => ⟨fun h => (by cases h), fun h => by omega⟩)
theorem posF_ok (C : List Int) : ∀ (j p : Nat) (l : List Int), p + j = C.length → l.Pairwise (· < ·) → (∀ x, x ∈ l ↔ 0 ≤ x ∧ x < p ∧ 0 < yat C x) → (posF C j p l).Pairwise (· < ·) ∧ ∀ x, x ∈ posF C j p l ↔ 0 ≤ x ∧ x < C.length ∧ 0 < yat C x
  | 0, p, l, hp, h1, h2 => by
    unfold posF
    refine ⟨h1, fun x => ?_⟩
    rw [h2 x]
    omega
  | j + 1, p, l, hp, h1, h2 => by
    unfold posF
    refine posF_ok C j (p + 1) _ (by omega) ?_ fun x => ?_
    · split
      · refine List.pairwise_append.mpr ⟨h1, List.pairwise_singleton _ _, fun a ha b hb => ?_⟩
        rw [List.mem_singleton.mp hb]
        have := (h2 a).mp ha
        omega
      · exact h1
    · by_cases hxp : x = p
      · subst hxp
        split
        · rename_i h3
          rw [List.mem_append, List.mem_singleton]
          simp only [or_true, true_iff]
          omega
        · rename_i h3
          rw [h2]
          omega
      · split
        · rw [List.mem_append, List.mem_singleton, h2]
          omega
        · rw [h2]
          omega
theorem posP_ok (C : List Int) : (posP C).Pairwise (· < ·) ∧ ∀ x, x ∈ posP C ↔ 0 ≤ x ∧ x < C.length ∧ 0 < yat C x := posF_ok C C.length 0 [] (by omega) List.Pairwise.nil (fun x => ⟨fun h => (by cases h), fun h => by omega⟩)
theorem srt_nd {C O : List Int} (h : srt C O) : O.Nodup := h.imp fun {a b} h1 h2 => by
  subst h2
  unfold plt at h1
  omega
theorem pw_nd {O : List Int} (h : O.Pairwise (· < ·)) : O.Nodup := h.imp fun {a b} h1 h2 => by omega
/-- two rows without doubles that hold the same are as long -/
theorem len_same {A B : List Int} (hA : A.Nodup) (hB : B.Nodup) (h : ∀ x, x ∈ A ↔ x ∈ B) : A.Perm B := (List.perm_ext_iff_of_nodup hA hB).mpr h
theorem sortP_posP (C : List Int) : (sortP C).Perm (posP C) := len_same (srt_nd (sortP_ok C).1) (pw_nd (posP_ok C).1) fun x => by rw [(sortP_ok C).2, (posP_ok C).2]
theorem posP_n (C : List Int) : ((posP C).length : Int) = abF C := by
  have := posP_ab (C := C) C.length 0 [] (by omega)
  rw [List.drop_zero] at this
  unfold posP
  rw [this]
  show ((0 : Nat) : Int) + abF C = abF C
  omega
theorem sortP_ab (C : List Int) : ((sortP C).length : Int) = abF C := by
  rw [(sortP_posP C).length_eq]
  exact posP_n C
theorem abF_cnt : ∀ (C : List Int), (∀ x ∈ C, 0 ≤ x) → abF C = (C.length : Nat) - (C.count 0 : Nat)
  | [], _ => rfl
  | x :: t, h => by
    have ih := abF_cnt t fun y hy => h y (List.mem_cons_of_mem _ hy)
    have h0 := h x (List.mem_cons_self ..)
    show (if 0 < x then (1 : Int) else 0) + abF t = _
    rw [ih, List.length_cons, List.count_cons]
    by_cases hx : x = 0
    · subst hx
      simp
      omega
    · rw [if_pos (by omega), if_neg (by simpa using hx)]
      omega
theorem abF_cntS {C : List Int} (hl : C.length = 26) (h : ∀ x ∈ C, 0 ≤ x) : abF C = cntS C := by
  rw [abF_cnt C h, hl]
  rfl
