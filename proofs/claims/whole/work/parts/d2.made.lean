/-! the pure part: what each code keeps -/
def gdC (q : cdT) : Prop := cdO q ∧ q.2.2.length = 26 ∧ apart (bs q.1) q.2.1 q.2.2 ∧ (q.1 = 104 ∨ q.1 = 98 ∨ q.1 = 111 → shF 2 q.2.1 = 33554432) ∧ (q.1 = 107 → shF 2 q.2.1 ≤ 33554432) ∧ (q.1 = 104 ∨ q.1 = 98 ∨ q.1 = 111 ∨ q.1 = 107 ∨ q.1 = 116)
theorem pow3_13 {k : Nat} (h : k ≤ 13) : (3 : Int) ^ k ≤ 1594323 := by
  have := Nat.pow_le_pow_right (n := 3) (by decide) h
  have e : ((3 : Nat) : Int) ^ k = ((3 ^ k : Nat) : Int) := by rw [Int.natCast_pow]
  rw [show (3 : Int) = ((3 : Nat) : Int) from rfl, e]
  have e2 : (3 : Nat) ^ 13 = 1594323 := rfl
  omega
theorem cdO_of {k : Int} {L W : List Int} (hk : 0 ≤ k ∧ k < 65536) (hL : L.length = 26) (hr : ∀ s : Nat, s < 26 → -1 ≤ yat L s ∧ yat L s ≤ 25) (hW : W.length = 26) (ha : apart (bs k) L W) (hz : ∀ s : Nat, s < 26 → ¬ 0 ≤ yat L s → yat W s = 0) (h3 : k = 116 → ∀ s : Nat, s < 26 → yat L s ≤ 13) : cdO (k, L, W) := by
  have hb : bs k = 2 ∨ bs k = 3 := by unfold bs; split <;> simp
  have hb0 : 0 < bs k := by omega
  have hLm : ∀ x ∈ L, -1 ≤ x ∧ x ≤ 25 := fun x hx => by
    obtain ⟨s, hs, rfl⟩ := List.getElem_of_mem hx
    have := hr s (by omega)
    rw [yat_n, getD_get hs] at this
    exact this
  have hL25 : ∀ x ∈ L, x ≤ 25 := fun x hx => (hLm x hx).2
  have hwd : ∀ s : Nat, s < 26 → 0 ≤ yat W s ∧ yat W s < 2147483648 := fun s hs => by
    by_cases h : 0 ≤ yat L s
    · have h1 := ap_lt hb0 ha hL25 (s := s) (by omega) h
      have h2 := hr s hs
      refine ⟨h1.1, ?_⟩
      rcases hb with h4 | h4
      · rw [h4] at h1
        have := pow_le25 (k := (yat L s).toNat) (by omega)
        omega
      · have hk3 : k = 116 := by
          unfold bs at h4
          split at h4
          · assumption
          · omega
        rw [h4] at h1
        have := pow3_13 (k := (yat L s).toNat) (by have := h3 hk3 s hs; omega)
        omega
    · rw [hz s hs h]
      omega
  refine ⟨hk, hL, hLm, fun x hx => ?_, fun s => ?_⟩
  · obtain ⟨s, hs, rfl⟩ := List.getElem_of_mem hx
    have := hwd s (by have : s < W.length := hs; omega)
    have e : yat W s = W[s] := by rw [yat_n, getD_get hs]
    rw [e] at this
    exact this
  · show 0 ≤ dwF k L W s ∧ dwF k L W s < 9223372036854775807
    unfold dwF
    by_cases hs : 0 ≤ s ∧ s < 26
    · obtain ⟨n, rfl⟩ := Int.eq_ofNat_of_zero_le hs.1
      by_cases h : 0 ≤ yat L n
      · have h1 := ha.1 n (by omega) h
        have h2 : vl (bs k) L W n = yat W n * bs k ^ (25 - yat L n).toNat := rfl
        have h4 := vw_pos (L := L) hb0 n
        have h5 : (bs k) ^ 25 ≤ 847288609443 := by
          rcases hb with h6 | h6 <;> rw [h6] <;> decide
        rw [← h2]
        refine ⟨?_, by omega⟩
        rw [h2]
        exact Int.mul_nonneg h1.1 (Int.le_of_lt (Int.pow_pos hb0))
      · rw [hz n (by omega) h, Int.zero_mul]
        omega
    · have : yat W s = 0 := yat_out W (by rw [hW]; omega)
      rw [this, Int.zero_mul]
      omega
section
variable {C : List Int}
theorem rep0 {s : Nat} : yat (List.replicate 26 0) s = 0 := yat_rep _ _
theorem lb_gd {k : Int} {L : List Int} (hk : k = 104 ∨ k = 98 ∨ k = 107 ∨ k = 116) (hL : L.length = 26) (hr : ∀ s : Nat, s < 26 → -1 ≤ yat L s ∧ yat L s ≤ 25) (hs : shF (bs k) L ≤ bs k ^ 25) (hs2 : k = 104 ∨ k = 98 → shF 2 L = 33554432) (h3 : k = 116 → ∀ s : Nat, s < 26 → yat L s ≤ 13) : gdC (k, L, lbW (bs k) L (List.replicate 26 0)) ∧ lenR L ∧ woW (bs k) L (List.replicate 26 0) = lbW (bs k) L (List.replicate 26 0) := by
  have hb0 : 0 < bs k := by unfold bs; split <;> omega
  have hLm : ∀ x ∈ L, -1 ≤ x ∧ x ≤ 25 := fun x hx => by
    obtain ⟨s, hs, rfl⟩ := List.getElem_of_mem hx
    have := hr s (by omega)
    rw [yat_n, getD_get hs] at this
    exact this
  have hL25 : ∀ x ∈ L, x ≤ 25 := fun x hx => (hLm x hx).2
  have hW : (List.replicate 26 (0 : Int)).length = L.length := by rw [hL]; simp
  have ha := lbW_apart hb0 hL25 hW hs
  refine ⟨⟨cdO_of (by omega) hL hr (by rw [lbW_len]; simp) ha (fun s hs2 h => ?_) h3, by show (lbW _ _ _).length = 26; rw [lbW_len]; simp, ha, fun h => ?_, fun h => ?_, ?_⟩, fun x hx => by have := hLm x hx; omega, woW_lbW hb0 hL25 hW⟩
  · rw [(lbW_ok hL25 hW (s := s) (by omega)).2 h]
    exact rep0
  · have h' : k = 104 ∨ k = 98 ∨ k = 111 := h
    exact hs2 (by omega)
  · have h' : k = 107 := h
    rw [show bs k = 2 by unfold bs; rw [if_neg (by omega)]] at hs
    exact hs
  · show k = 104 ∨ k = 98 ∨ k = 111 ∨ k = 107 ∨ k = 116
    omega
theorem hl_gd (hC : C.length = 26) (hnn : ∀ x ∈ C, 0 ≤ x) (h1 : 1 ≤ abF C) : gdC (104, hlL 0 C 26, lbW 2 (hlL 0 C 26) (List.replicate 26 0)) ∧ lenR (hlL 0 C 26) ∧ joF 2 C = hlL 0 C 26 ∧ woW 2 (hlL 0 C 26) (List.replicate 26 0) = lbW 2 (hlL 0 C 26) (List.replicate 26 0) := by
  have hr := fun (s : Nat) (hs : s < 26) => hlL_rng (tb := 0) (.inl rfl) hnn h1 (b := 25) (by omega) (fun i hi => by have := hlD_le (tb := 0) (.inl rfl) hnn h1 hi; omega) s (by omega)
  have hsh := hl_share (tb := 0) (.inl rfl) hnn h1 (fun i h2 hi => by have := hlD_le (tb := 0) (.inl rfl) hnn h1 hi; omega)
  have hjo := joF_hlL (tb := 0) (.inl rfl) hnn h1
  rw [hC] at hr hsh hjo
  have h2 : shF 2 (hlL 0 C 26) = 2 ^ 25 := hsh.2 rfl
  have := lb_gd (k := 104) (L := hlL 0 C 26) (.inl rfl) (hlL_len _ _ _) (fun s hs => ⟨(hr s hs).1, (hr s hs).2.1⟩) (by show shF 2 _ ≤ 2 ^ 25; omega) (fun _ => h2) (fun h => by omega)
  exact ⟨this.1, this.2.1, hjo, this.2.2⟩
theorem h3_gd (hC : C.length = 26) (hnn : ∀ x ∈ C, 0 ≤ x) (h1 : 1 ≤ abF C) : gdC (116, hlL 1 C 26, lbW 3 (hlL 1 C 26) (List.replicate 26 0)) ∧ lenR (hlL 1 C 26) ∧ joF 3 C = hlL 1 C 26 ∧ woW 3 (hlL 1 C 26) (List.replicate 26 0) = lbW 3 (hlL 1 C 26) (List.replicate 26 0) := by
  obtain ⟨m, r, r1, r2, r3, r4, r5, r6, r7, r8, r9, r10⟩ := hl_run (tb := 1) (.inr rfl) hnn h1
  have hlO := jlO_len (tb := 1) (C := C) (.inr rfl)
  rw [show ((2 : Int) + 1).toNat - 1 = 2 from rfl] at r2
  rw [hC, show ((1 : Int)).toNat = 1 from rfl] at hlO
  have hd : ∀ i : Nat, i < (jlO 1 C).length → yat (hlD 1 C) i ≤ 13 := fun i hi => by
    have := hlD_rng (tb := 1) (.inr rfl) hnn h1 (jlQ 1 C).2.2.1.length i (by omega) (by omega)
    omega
  have hr := fun (s : Nat) (hs : s < 26) => hlL_rng (tb := 1) (.inr rfl) hnn h1 (b := 25) (by omega) (fun i hi => by have := hlD_le (tb := 1) (.inr rfl) hnn h1 hi; omega) s (by omega)
  have hsh := hl_share (tb := 1) (.inr rfl) hnn h1 (fun i h2 hi => by have := hlD_le (tb := 1) (.inr rfl) hnn h1 hi; omega)
  have hjo := joF_hlL (tb := 1) (.inr rfl) hnn h1
  have h13 : ∀ s : Nat, s < 26 → yat (hlL 1 C 26) s ≤ 13 := fun s hs => by
    by_cases h : 0 < yat C s
    · obtain ⟨i, hi, he⟩ := List.getElem_of_mem ((jlO_mem (C := C) (tb := 1) s).mpr (.inr ⟨by omega, by omega, h⟩))
      have hg : (jlO 1 C).getD i 0 = (s : Nat) := by rw [getD_get hi, he]
      have h2 := hlL_leaf (C := C) (tb := 1) hi (by omega)
      rw [hg, hC] at h2
      have := hd i hi
      omega
    · have := hlL_out (C := C) (tb := 1) (.inr rfl) hs h
      omega
  rw [hC] at hr hsh hjo
  have := lb_gd (k := 116) (L := hlL 1 C 26) (.inr (.inr (.inr rfl))) (hlL_len _ _ _) (fun s hs => ⟨(hr s hs).1, (hr s hs).2.1⟩) hsh.1 (fun h => by omega) (fun _ => h13)
  exact ⟨this.1, this.2.1, hjo, this.2.2⟩
theorem ms_gd (hC : C.length = 26) (hnn : ∀ x ∈ C, 0 ≤ x) (h1 : 1 ≤ abF C) {b : Nat} (hb : 1 ≤ b ∧ b ≤ 25) (hr : abF C ≤ 2 ^ b) : gdC (98, msL C b, lbW 2 (msL C b) (List.replicate 26 0)) ∧ lenR (msL C b) ∧ pkL C b = msL C b ∧ woW 2 (msL C b) (List.replicate 26 0) = lbW 2 (msL C b) (List.replicate 26 0) := by
  have hrg := fun (s : Nat) (hs : s < 26) => ms_rng hC hnn hb.1 h1 hr hs
  have hsh := ms_share hC hnn hb h1 hr
  have := lb_gd (k := 98) (L := msL C b) (.inr (.inl rfl)) (msL_len C b) (fun s hs => by have := hrg s hs; omega) (by show shF 2 _ ≤ 2 ^ 25; omega) (fun _ => hsh) (fun h => by omega)
  exact ⟨this.1, this.2.1, (ms_pk hC hnn hb.1 h1 hr).symm, this.2.2⟩
theorem go_gd (hC : C.length = 26) (hnn : ∀ x ∈ C, 0 ≤ x) (h1 : 1 ≤ abF C) : gdC (111, goL C 26, lsF (goL C 26) (goL C 26).length 0 0 (-1) (List.replicate 26 0)) ∧ lenR (goL C 26) ∧ lsK (goL C 26) (goL C 26).length 0 0 (-1) ∧ inL C = goL C 26 ∧ wiK (inL C) 26 0 (List.replicate 26 0, 0, -1) ∧ wiW (inL C) = lsF (goL C 26) (goL C 26).length 0 0 (-1) (List.replicate 26 0) := by
  have ha := go_alL hC hnn h1
  have ho := ord_ok ha
  have hrg := fun (s : Nat) (hs : s < 26) => goL_rng hC hnn h1 hs
  have hin := go_in hC hnn h1
  have hsh : shF 2 (goL C 26) = 2 ^ 25 := by rw [shF_cm ha.1, ha.2.2.2]
  refine ⟨⟨cdO_of (by omega) ha.1 (fun s hs => by have := hrg s hs; omega) ?_ ho.2.2.2 (fun s hs h => ?_) (fun h => by omega), ?_, ho.2.2.2, fun _ => hsh, fun h => ?_, ?_⟩, fun x hx => ?_, ho.1, hin.symm, by rw [← hin]; exact ho.2.1, by rw [← hin]; exact ho.2.2.1.symm⟩
  · rw [lsF_len]; simp
  · have h0 : inV (goL C 26) 0 0 (-1) := .inl ⟨by omega, rfl, rfl⟩
    have := (ls_ok ha 26 0 0 (-1) (List.replicate 26 0) (by omega) (by simp) (by rw [if_neg (by omega)]; exact h0)).2 s hs
    rw [ha.1, this.2 (.inr h)]
    exact rep0
  · show (lsF _ _ _ _ _ _).length = 26
    rw [lsF_len]; simp
  · have h' : (111 : Int) = 107 := h
    omega
  · exact .inr (.inr (.inl rfl))
  · obtain ⟨s, hs, rfl⟩ := List.getElem_of_mem hx
    rw [ha.1] at hs
    have := hrg s hs
    rw [yat_n, getD_get (by rw [ha.1]; exact hs)] at this
    omega
end
/-- lengths that are told -/
theorem blF_at (T : List Int) : ∀ (j k : Nat) (L : List Int) (s : Nat), k + j ≤ L.length → yat (blF T j k L) s = if (k ≤ s ∧ s < k + j) ∧ 0 < yat T s then yat T s else yat L s
  | 0, k, L, s, h => by
    unfold blF
    rw [if_neg (by omega)]
  | j + 1, k, L, s, h => by
    unfold blF
    rw [blF_at T j (k + 1) _ s (by split <;> (try rw [List.length_set]) <;> omega)]
    by_cases h1 : (k + 1 ≤ s ∧ s < k + 1 + j) ∧ 0 < yat T s
    · rw [if_pos h1, if_pos ⟨by omega, h1.2⟩]
    · rw [if_neg h1]
      by_cases h2 : s = k
      · subst h2
        by_cases h3 : 0 < yat T s
        · rw [if_pos h3, yat_setn (by omega), if_pos rfl, if_pos ⟨by omega, h3⟩]
        · rw [if_neg h3, if_neg (fun h => h3 h.2)]
      · have h3 : ¬ ((k ≤ s ∧ s < k + (j + 1)) ∧ 0 < yat T s) := fun h => h1 ⟨by omega, h.2⟩
        rw [if_neg h3]
        split
        · rw [yat_setn (by omega), if_neg h2]
        · rfl
theorem bl_bm {T : List Int} (hT : T.length ≤ 26) : blA T = bmL T := by
  have h1 : (blA T).length = 26 := by
    unfold blA
    rw [blF_len]
    simp
  have h2 : (bmL T).length = 26 := by simp [bmL]
  refine ext_yat (by rw [h1, h2]) fun s hs => ?_
  rw [h2] at hs
  have e1 : yat (bmL T) s = if s < T.length ∧ 0 < yat T s then yat T s else -1 := by
    rw [yat_n, getD_get (by rw [h2]; exact hs)]
    simp [bmL]
  have e2 : yat (List.replicate 26 (-1)) s = -1 := by
    rw [yat_n, getD_get (by simp; exact hs), List.getElem_replicate]
  unfold blA
  rw [blF_at T _ 0 _ s (by simp; exact hT), e1, e2]
  by_cases h3 : s < T.length ∧ 0 < yat T s
  · rw [if_pos h3, if_pos ⟨by omega, h3.2⟩]
  · rw [if_neg h3, if_neg (fun h => h3 ⟨by omega, h.2⟩)]
theorem bl_rng {T : List Int} (hTr : ∀ x ∈ T, 0 ≤ x ∧ x < 26) (hT : T.length ≤ 26) (s : Nat) (hs : s < 26) : yat (blA T) s = -1 ∨ (1 ≤ yat (blA T) s ∧ yat (blA T) s ≤ 25) := by
  have e2 : yat (List.replicate 26 (-1)) s = -1 := by
    rw [yat_n, getD_get (by simp; exact hs), List.getElem_replicate]
  have := yat_all (Q := fun x => 0 ≤ x ∧ x < 26) hTr (by omega) s
  unfold blA
  rw [blF_at T _ 0 _ s (by simp; exact hT), e2]
  split <;> omega
theorem bl_len (T : List Int) : (blA T).length = 26 := by
  unfold blA
  rw [blF_len]
  simp
theorem ab_cnt : ∀ (L : List Int), (∀ x ∈ L, x = -1 ∨ 1 ≤ x) → abF L = (L.length : Nat) - (L.count (-1) : Nat)
  | [], _ => rfl
  | x :: t, h => by
    have ih := ab_cnt t (fun y hy => h y (.tail _ hy))
    have hx := h x (.head _)
    have e : abF (x :: t) = (if 0 < x then 1 else 0) + abF t := rfl
    rw [e, ih, List.length_cons, List.count_cons]
    rcases hx with h1 | h1
    · rw [if_neg (by omega), h1]
      simp
      omega
    · rw [if_pos (by omega), if_neg (by simp; omega)]
      omega
theorem bl_cnt {T : List Int} (hTr : ∀ x ∈ T, 0 ≤ x ∧ x < 26) (hT : T.length ≤ 26) : abF (bmL T) = 26 - ((blA T).count (-1) : Nat) ∧ (blA T).count (-1) ≤ 26 := by
  have hl := bl_len T
  have := ab_cnt (blA T) (fun x hx => by
    obtain ⟨s, hs, rfl⟩ := List.getElem_of_mem hx
    have := bl_rng hTr hT s (by omega)
    rw [yat_n, getD_get hs] at this
    omega)
  rw [hl] at this
  have h2 := List.count_le_length (l := blA T) (a := (-1 : Int))
  rw [← bl_bm hT]
  omega
theorem bl_gd {T : List Int} (hTr : ∀ x ∈ T, 0 ≤ x ∧ x < 26) (hT : T.length ≤ 26) (hs : shF 2 (blA T) ≤ 33554432) : gdC (107, blA T, lbW 2 (blA T) (List.replicate 26 0)) ∧ woW 2 (blA T) (List.replicate 26 0) = lbW 2 (blA T) (List.replicate 26 0) := by
  have := lb_gd (k := 107) (L := blA T) (.inr (.inr (.inl rfl))) (bl_len T) (fun s hs => by have := bl_rng hTr hT s hs; omega) hs (fun h => by omega) (fun h => by omega)
  exact ⟨this.1, this.2.2⟩
