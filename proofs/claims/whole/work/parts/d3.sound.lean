/-! the pure part: soundness, both ways -/
theorem csB_true {q : cdT} (h : gdC q) {T : List Int} (hT : ∀ x ∈ T, 0 ≤ x ∧ x < 26) : csB q T = true := by
  obtain ⟨h1, h2, h3, h4, h5, h6⟩ := h
  have hL : ∀ x ∈ q.2.1, x ≤ 25 := fun x hx => (h1.2.2.1 x hx).2
  have hb0 : 0 < bs q.1 := by unfold bs; split <;> omega
  unfold csB
  rw [decide_eq_true_eq]
  refine ⟨apF_true rfl hb0 h3 hL _ _ (by omega), h4, cm_true (fun h => ?_) hL h1.2.1 hT⟩
  have e : bs q.1 = 2 := by unfold bs; rw [if_neg h]
  rw [e] at h3
  exact h3
theorem soF_true {cs : List cdT} (h : ∀ q ∈ cs, gdC q) {T : List Int} (hT : ∀ x ∈ T, 0 ≤ x ∧ x < 26) : ∀ (j k : Nat), k + j ≤ cs.length → soF cs T j k = true
  | 0, _, _ => rfl
  | j + 1, k, hk => by
    have hm : cs.getD k cd0 ∈ cs := by
      rw [List.getD_eq_getElem?_getD, List.getElem?_eq_getElem (by omega)]
      exact List.getElem_mem _
    unfold soF
    rw [if_pos (csB_true (h _ hm) hT)]
    exact soF_true h hT j (k + 1) (by omega)
theorem soM_1 {cs : List cdT} (h : ∀ q ∈ cs, gdC q) : ∀ (j k : Nat), k + j ≤ cs.length → soM cs j k 1 = 1
  | 0, _, _ => rfl
  | j + 1, k, hk => by
    have hm : cs.getD k cd0 ∈ cs := by
      rw [List.getD_eq_getElem?_getD, List.getElem?_eq_getElem (by omega)]
      exact List.getElem_mem _
    obtain ⟨h1, h2, h3, h4, h5, h6⟩ := h _ hm
    have hok : okM (cs.getD k cd0) := by
      rcases h6 with h7 | h7 | h7 | h7 | h7
      · exact .inr (.inr ⟨by omega, h4 (.inl h7)⟩)
      · exact .inr (.inr ⟨by omega, h4 (.inr (.inl h7))⟩)
      · exact .inr (.inr ⟨by omega, h4 (.inr (.inr h7))⟩)
      · exact .inr (.inl ⟨h7, h5 h7⟩)
      · exact .inl h7
    unfold soM
    rw [if_neg (by omega), if_pos hok]
    exact soM_1 h j (k + 1) (by omega)
theorem eqM_1 (T : List Int) : ∀ (j k : Nat), eqM T T j k 1 = 1
  | 0, _ => rfl
  | j + 1, k => by
    unfold eqM
    rw [if_neg (by omega), if_pos rfl]
    exact eqM_1 T j (k + 1)
theorem bd_0 (C : List Int) : ∀ (j b : Nat) (bf : Int), bdM C j b bf 0 = 0
  | 0, _, _ => rfl
  | j + 1, b, bf => by
    unfold bdM
    split
    · rw [if_pos rfl]
      exact bd_0 C j (b + 1) _
    · exact bd_0 C j (b + 1) _
section
variable {C : List Int}
theorem kc_ms (hC : C.length = 26) (hnn : ∀ x ∈ C, 0 ≤ x) (hs : C.sum ≤ 260000) (h1 : 1 ≤ abF C) {b : Nat} (hb : 1 ≤ b ∧ b ≤ 25) (hr : abF C ≤ 2 ^ b) : kcM C b = csF C (msL C b) 26 0 0 ∧ 0 ≤ kcM C b ∧ kcM C b ≤ 6500000 := by
  have e := ms_pk hC hnn hb.1 h1 hr
  have h2 := cs_rng (C := C) (L := msL C b) (n := 26) (M := 25) hC.symm hnn (by omega) (fun s hs h => by have := ms_rng hC hnn hb.1 h1 hr hs; omega)
  unfold kcM
  rw [← e]
  omega
theorem lo_rng (hC : C.length = 26) (hnn : ∀ x ∈ C, 0 ≤ x) (hs : C.sum ≤ 260000) : 0 ≤ loM C ∧ loM C ≤ 14040000 := by
  have := loM_rng hnn
  rw [hC] at this
  omega
theorem gj_all (hC : C.length = 26) (hnn : ∀ x ∈ C, 0 ≤ x) : gjF C = csF C (goL C 26) 26 0 0 := by
  by_cases h : abF C = 0
  · rw [cs_zero h hnn]
    have h2 := posP_n C
    have h3 : posP C = [] := List.length_eq_zero_iff.mp (by omega)
    unfold gjF gwQ
    rw [h3]
    rfl
  · have h1 : 1 ≤ abF C := by have := (abF_rng C).1; omega
    exact (gj_go hC hnn h1).symm
theorem go_rngS (hC : C.length = 26) (hnn : ∀ x ∈ C, 0 ≤ x) (hs : C.sum ≤ 260000) : 0 ≤ gjF C ∧ gjF C ≤ 6500000 := by
  rw [gj_all hC hnn]
  by_cases h : abF C = 0
  · rw [cs_zero h hnn]
    omega
  · have h1 : 1 ≤ abF C := by have := (abF_rng C).1; omega
    have h2 := cs_rng (C := C) (L := goL C 26) (n := 26) (M := 25) hC.symm hnn (by omega) (fun s hs h => by have := goL_rng hC hnn h1 hs; omega)
    omega
theorem go_inS (hC : C.length = 26) (hnn : ∀ x ∈ C, 0 ≤ x) : gjF C = csF C (inL C) 26 0 0 := by
  rw [gj_all hC hnn]
  by_cases h : abF C = 0
  · rw [cs_zero h hnn, cs_zero h hnn]
  · have h1 : 1 ≤ abF C := by have := (abF_rng C).1; omega
    rw [go_in hC hnn h1]
theorem csR_ok (hC : C.length = 26) (hnn : ∀ x ∈ C, 0 ≤ x) (hs : C.sum ≤ 260000) : csR C ∧ csRM C := by
  have g1 := lo_rng hC hnn hs
  have g2 := go_rngS hC hnn hs
  have g3 := go_inS hC hnn
  have g4 := (lo_jw hnn).symm
  have ha := abF_cntS hC hnn
  have key : ∀ b : Nat, b ≤ 25 → abF C ≤ 2 ^ b → (0 ≤ csF C (msL C b) 26 0 0 ∧ csF C (msL C b) 26 0 0 ≤ 100000000) ∧ 0 ≤ kcM C b ∧ kcM C b ≤ 100000000 := fun b hb hr => by
    by_cases h : abF C = 0
    · have e1 := cs_zero h hnn (msL C b) 26
      have e2 := cs_zero h hnn (pkL C b) 26
      unfold kcM
      omega
    · have h1 : 1 ≤ abF C := by have := (abF_rng C).1; omega
      by_cases hb0 : b = 0
      · subst hb0
        have hn1 : abF C = 1 := by
          rw [Int.pow_zero] at hr
          omega
        have e1 : kcM C 0 = 0 := by
          have h2 := cs_rng (C := C) (L := pkL C 0) (n := 26) (M := 0) hC.symm hnn (by omega) (fun s hs h => by
            rw [pkL_at C 0 hs, if_pos h]
            have : (2 * abF C - 2).toNat = 0 := by omega
            rw [this]
            exact ⟨Int.le_refl _, Int.le_refl _⟩)
          unfold kcM
          omega
        have hl : (sortP C).length = 1 := by have := sortP_ab C; omega
        have h3 := cs_rng (C := C) (L := msL C 0) (n := 26) (M := 0) hC.symm hnn (by omega) (fun s hs h => by
          have hz := zpF_at (sortP C) (List.replicate 26 (-1)) (fun x hx => by have := ((sortP_ok C).2 x).mp hx; omega) (by simp) s
          have e : msL C 0 = zpF (sortP C) (List.replicate 26 (-1)) := rfl
          rw [e, hz, if_pos (((sortP_ok C).2 s).mpr ⟨by omega, by omega, h⟩)]
          omega)
        omega
      · have h2 := kc_ms hC hnn hs h1 (b := b) ⟨by omega, hb⟩ hr
        omega
  refine ⟨⟨by unfold i32; omega, by unfold i32; omega, fun b hb hr => ?_⟩, by unfold i32; omega, by unfold i32; omega, fun b hb hr => ?_⟩
  · have := key b hb (by omega)
    unfold i32
    omega
  · have := key b hb hr
    unfold i32
    omega
theorem bd_ca (hC : C.length = 26) (hnn : ∀ x ∈ C, 0 ≤ x) (hs : C.sum ≤ 260000) (h1 : 1 ≤ abF C) : ∀ (j b : Nat) (s bf : Int), b + j = 26 → 1 ≤ b → ((s = -1 ∧ bf = 2147483647) ∨ (s = bf ∧ 0 ≤ s)) → bdM C j b bf 1 = if caF C (loM C) j b s = true then 1 else 0
  | 0, _, _, _, _, _, _ => rfl
  | j + 1, b, s, bf, hb, hb1, hsb => by
    have ha := abF_cntS hC hnn
    unfold bdM caF
    by_cases hr : abF C ≤ 2 ^ b
    · have hk := kc_ms hC hnn hs h1 (b := b) ⟨hb1, by omega⟩ hr
      rw [if_pos hr, if_pos (by omega : cntS C ≤ 2 ^ b), ← hk.1, if_neg (by omega)]
      by_cases hc : kcM C b < loM C ∨ (0 ≤ s ∧ s < kcM C b)
      · rw [if_pos hc, if_neg (by omega), bd_0]
        rfl
      · rw [if_neg hc, if_pos (by omega)]
        exact bd_ca hC hnn hs h1 j (b + 1) _ _ (by omega) (by omega) (.inr ⟨rfl, hk.2.1⟩)
    · rw [if_neg hr, if_neg (by omega : ¬ cntS C ≤ 2 ^ b)]
      exact bd_ca hC hnn hs h1 j (b + 1) _ _ (by omega) (by omega) hsb
/-- the answers of isSound -/
theorem is_ok (hC : C.length = 26) (hnn : ∀ x ∈ C, 0 ≤ x) (hs : C.sum ≤ 260000) {cs : List cdT} (hcs : ∀ q ∈ cs, gdC q) {T : List Int} (hT : ∀ x ∈ T, 0 ≤ x ∧ x < 26) {Wd0 Wd1 Wm0 Wm1 : List Int} (h0 : Wd0.length = 27) (h1 : Wd1.length = 27) (m0 : Wm0.length = 27) (m1 : Wm1.length = 27) {b : Bool} (hb : b = true ↔ soF cs T cs.length 0 = true ∧ caB C = true ∧ T = umF (tmF T (ciL 26)) (ciL 26) ∧ T = ggF (glF T startG Wd0) T.length 0 startG Wd1) : isM C T cs (guF (gmF T (List.replicate 26 0 ++ [1]) Wm0) T.length 0 (List.replicate 26 0 ++ [1]) Wm1) = if b = true then 1 else 0 := by
  have eU : guF (gmF T (List.replicate 26 0 ++ [1]) Wm0) T.length 0 (List.replicate 26 0 ++ [1]) Wm1 = T := by
    have e1 := gl_gm T startG Wm0 Wm0 gOk_start m0 m0 hT
    have e2 := gg_gu (S := glF T startG Wm0) (glF_bit T startG Wm0) T.length 0 startG Wm1 Wm1 gOk_start m1 m1 (Int.le_refl _) (by omega)
    have e3 := grow_back m0 m1 hT
    rw [e1] at e2 e3
    exact e2.symm.trans e3.symm
  rw [eU]
  have hb2 : b = true ↔ caB C = true := by
    rw [hb]
    constructor
    · intro h
      exact h.2.1
    · intro h
      exact ⟨soF_true hcs hT _ _ (by omega), h, moves_back hT, grow_back h0 h1 hT⟩
  have ha := abF_cntS hC hnn
  have gi := go_inS hC hnn
  have gl := (lo_jw hnn).symm
  have s1 : soM cs cs.length 0 1 = 1 := soM_1 hcs _ _ (by omega)
  have e0 : isM C T cs T = if (if abF C = 0 then (1 : Int) else bdM C 25 1 2147483647 1) = 0 then 0 else if abF C = 0 then 1 else if loM C ≤ csF C (inL C) 26 0 0 then 1 else 0 := by
    unfold isM
    simp only [s1, eqM_1, Int.reduceEq, if_false, if_true, eq_self]
  rw [e0]
  by_cases h : abF C = 0
  · rw [if_pos h, if_neg (by omega), if_pos h]
    have : caB C = true := by
      unfold caB
      rw [if_pos (by omega)]
    rw [if_pos (hb2.mpr this)]
  · have h1' : 1 ≤ abF C := by have := (abF_rng C).1; omega
    rw [if_neg h, if_neg h, bd_ca hC hnn hs h1' 25 1 (-1) 2147483647 (by omega) (by omega) (.inl ⟨rfl, rfl⟩)]
    have e : caB C = if csF C (inL C) 26 0 0 < loM C then false else caF C (loM C) 25 1 (-1) := by
      unfold caB
      rw [if_neg (by omega), gi, gl]
    by_cases h2 : caF C (loM C) 25 1 (-1) = true
    · rw [if_pos h2, if_neg (by omega)]
      by_cases h3 : csF C (inL C) 26 0 0 < loM C
      · rw [if_pos h3] at e
        rw [if_neg (by omega), if_neg (fun h4 => by rw [hb2, e] at h4; cases h4)]
      · rw [if_neg h3] at e
        rw [if_pos (by omega), if_pos (hb2.mpr (by rw [e]; exact h2))]
    · rw [if_neg h2, if_pos rfl, if_neg]
      intro h4
      rw [hb2, e] at h4
      split at h4
      · cases h4
      · exact h2 h4
end
