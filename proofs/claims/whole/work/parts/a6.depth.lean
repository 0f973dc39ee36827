/-! the pure part: depths and shares of the least code -/
section
variable {C : List Int} {tb : Int}
theorem hlD_rng (htb : tb = 0 ∨ tb = 1) (hnn : ∀ x ∈ C, 0 ≤ x) (h1 : 1 ≤ abF C) : ∀ (k i : Nat), i < (jlQ tb C).2.2.1.length → (jlQ tb C).2.2.1.length ≤ i + 1 + k → 0 ≤ yat (hlD tb C) i ∧ ((jlO tb C).length ≤ i → yat (hlD tb C) i + 1 + i ≤ (jlQ tb C).2.2.1.length) ∧ (i < (jlO tb C).length → yat (hlD tb C) i + (jlO tb C).length ≤ (jlQ tb C).2.2.1.length) := by
  obtain ⟨m, r, r1, r2, r3, r4, r5, r6, r7, r8, r9, r10⟩ := hl_run htb hnn h1
  rw [← r1]
  intro k
  induction k with
  | zero =>
    intro i hi hk
    rcases r10 i hi with h | ⟨p, h⟩
    · rw [h.2.2.1]
      omega
    · omega
  | succ k ih =>
    intro i hi hk
    rcases r10 i hi with h | ⟨p, h2, h3, h4, h5, h6, h7⟩
    · rw [h.2.2.1]
      omega
    · have := ih p h3 (by omega)
      omega
theorem hl_rounds (htb : tb = 0 ∨ tb = 1) (hnn : ∀ x ∈ C, 0 ≤ x) (h1 : 1 ≤ abF C) : (jlQ tb C).2.2.1.length + 1 ≤ (jlO tb C).length + C.length ∧ 1 ≤ (jlO tb C).length ∧ (jlO tb C).length ≤ (jlQ tb C).2.2.1.length := by
  obtain ⟨m, r, r1, r2, r3, r4, r5, r6, r7, r8, r9, r10⟩ := hl_run htb hnn h1
  have h2 := sortP_len C
  have h3 := sortP_ab C
  rw [← r1, r3]
  rcases htb with h | h
  · rw [h] at r2 ⊢
    rw [show ((2 : Int) + 0).toNat - 1 = 1 from rfl, jlO_0] at r2
    rw [jlO_0]
    omega
  · rw [h] at r2 ⊢
    rw [show ((2 : Int) + 1).toNat - 1 = 2 from rfl] at r2
    have := jlO_len (tb := 1) (C := C) (.inr rfl)
    omega
theorem hlD_le (htb : tb = 0 ∨ tb = 1) (hnn : ∀ x ∈ C, 0 ≤ x) (h1 : 1 ≤ abF C) {i : Nat} (hi : i < (jlQ tb C).2.2.1.length) : 0 ≤ yat (hlD tb C) i ∧ yat (hlD tb C) i + 1 ≤ C.length ∧ ((jlO tb C).length ≤ i → yat (hlD tb C) i + 2 ≤ C.length) := by
  have h2 := hlD_rng htb hnn h1 (jlQ tb C).2.2.1.length i hi (by omega)
  have h3 := hl_rounds htb hnn h1
  omega
theorem hlL_rng (htb : tb = 0 ∨ tb = 1) (hnn : ∀ x ∈ C, 0 ≤ x) (h1 : 1 ≤ abF C) {b : Int} (hb : 0 ≤ b) (hD : ∀ i : Nat, i < (jlQ tb C).2.2.1.length → yat (hlD tb C) i ≤ b) (s : Nat) (hs : s < C.length) : -1 ≤ yat (hlL tb C C.length) s ∧ yat (hlL tb C C.length) s ≤ b ∧ (0 ≤ yat (hlL tb C C.length) s ↔ 0 < yat C s) := by
  by_cases h : 0 < yat C s
  · obtain ⟨i, hi, he⟩ := List.getElem_of_mem ((jlO_mem (C := C) (tb := tb) s).mpr (.inr ⟨by omega, by omega, h⟩))
    have hg : (jlO tb C).getD i 0 = (s : Nat) := by rw [getD_get hi, he]
    have h2 := hlL_leaf (C := C) (tb := tb) hi (by omega)
    rw [hg] at h2
    have h3 := hl_rounds htb hnn h1
    have h4 := hlD_le htb hnn h1 (i := i) (by omega)
    have h5 := hD i (by omega)
    rw [h2]
    omega
  · rw [hlL_out htb hs h]
    omega
theorem shF_sF (b : Int) : ∀ L : List Int, shF b L = sF (fun s => if 0 ≤ yat L s then b ^ (25 - yat L s).toNat else 0) 0 L.length
  | [] => rfl
  | x :: t => by
    rw [shF, shF_sF b t, List.length_cons, sF, sF_shift _ 1 t.length 0]
    congr 1
/-- the shares of all leaves, the one without a sign too -/
theorem hl_kraft (htb : tb = 0 ∨ tb = 1) (hnn : ∀ x ∈ C, 0 ≤ x) (h1 : 1 ≤ abF C) (hD : ∀ i : Nat, (jlO tb C).length ≤ i → i < (jlQ tb C).2.2.1.length → yat (hlD tb C) i + 1 ≤ 25) : sF (fun i => (2 + tb) ^ (25 - yat (hlD tb C) i).toNat) 0 (jlO tb C).length = (2 + tb) ^ 25 := by
  obtain ⟨m, r, r1, r2, r3, r4, r5⟩ := hl_pot htb hnn h1 (fun i => (2 + tb) ^ (25 - yat (hlD tb C) i).toNat) (fun _ => 0) (fun _ => 0) (fun p => (2 + tb) ^ (25 - yat (hlD tb C) p - 1).toNat) (fun i p hd => by
    show (2 + tb) ^ (25 - yat (hlD tb C) i).toNat = 0 * _ + (2 + tb) ^ (25 - yat (hlD tb C) p - 1).toNat
    rw [hd, Int.zero_mul, Int.zero_add]
    congr 2
    omega) (fun p g1 g2 => by
    show 0 * _ + ((2 + tb).toNat : Int) * (2 + tb) ^ (25 - yat (hlD tb C) p - 1).toNat = (2 + tb) ^ (25 - yat (hlD tb C) p).toNat + 0
    have := hD p g1 g2
    rw [Int.zero_mul, Int.zero_add, Int.add_zero, show (25 - yat (hlD tb C) p).toNat = (25 - yat (hlD tb C) p - 1).toNat + 1 by omega, Int.pow_succ, show ((2 + tb).toNat : Int) = 2 + tb by omega, Int.mul_comm])
  rw [r5, sF_0, Int.add_zero, r4]
  rfl
theorem hl_share (htb : tb = 0 ∨ tb = 1) (hnn : ∀ x ∈ C, 0 ≤ x) (h1 : 1 ≤ abF C) (hD : ∀ i : Nat, (jlO tb C).length ≤ i → i < (jlQ tb C).2.2.1.length → yat (hlD tb C) i + 1 ≤ 25) : shF (2 + tb) (hlL tb C C.length) ≤ (2 + tb) ^ 25 ∧ (tb = 0 → shF (2 + tb) (hlL tb C C.length) = (2 + tb) ^ 25) := by
  have hk := hl_kraft htb hnn h1 hD
  have h2 := sort_sF C (fun x => if 0 < yat C x then (2 + tb) ^ (25 - yat (hlL tb C C.length) x).toNat else 0) (fun s hs => if_neg hs)
  have hr := hlL_rng htb hnn h1 (b := C.length) (by omega) (fun i hi => by have := hlD_le htb hnn h1 hi; omega)
  have h3 : shF (2 + tb) (hlL tb C C.length) = ((sortP C).map (fun x => if 0 < yat C x then (2 + tb) ^ (25 - yat (hlL tb C C.length) x).toNat else 0)).sum := by
    rw [shF_sF, h2, hlL_len]
    refine sF_congr _ _ fun s _ hs => ?_
    have := (hr s (by omega)).2.2
    by_cases h4 : 0 < yat C s
    · rw [if_pos (this.mpr h4), if_pos h4]
    · rw [if_neg (fun g => h4 (this.mp g)), if_neg h4]
  have h4 : ∀ i : Nat, i < (jlO tb C).length → 0 ≤ (jlO tb C).getD i 0 → (if 0 < yat C ((jlO tb C).getD i 0) then (2 + tb) ^ (25 - yat (hlL tb C C.length) ((jlO tb C).getD i 0)).toNat else 0) = (2 + tb) ^ (25 - yat (hlD tb C) i).toNat := fun i hi h5 => by
    have hm := (jlO_mem (C := C) (tb := tb) ((jlO tb C).getD i 0)).mp (by rw [getD_get hi]; exact List.getElem_mem _)
    rw [hlL_leaf hi h5, if_pos (by omega)]
  rw [h3, ← hk, list_sF]
  by_cases h5 : tb = 1 ∧ (sortP C).length % 2 = 0
  · have e : jlO tb C = -1 :: sortP C := by
      unfold jlO
      rw [if_pos h5]
      rfl
    have e2 : ∀ i : Nat, i < (sortP C).length → (if 0 < yat C ((sortP C).getD i 0) then (2 + tb) ^ (25 - yat (hlL tb C C.length) ((sortP C).getD i 0)).toNat else 0) = (2 + tb) ^ (25 - yat (hlD tb C) ((i + 1 : Nat) : Int)).toNat := fun i hi => by
      have e3 : (jlO tb C).getD (i + 1) 0 = (sortP C).getD i 0 := by rw [e]; rfl
      rw [← e3]
      refine h4 (i + 1) (by rw [e, List.length_cons]; omega) ?_
      rw [e3]
      exact ((sortP_ok C).2 _ |>.mp (by rw [getD_get hi]; exact List.getElem_mem _)).1
    have e4 : sF (fun i => (2 + tb) ^ (25 - yat (hlD tb C) i).toNat) 0 (jlO tb C).length = (2 + tb) ^ (25 - yat (hlD tb C) ((0 : Nat) : Int)).toNat + sF (fun i => (2 + tb) ^ (25 - yat (hlD tb C) ((i + 1 : Nat) : Int)).toNat) 0 (sortP C).length := by
      rw [show (jlO tb C).length = (sortP C).length + 1 by rw [e, List.length_cons], sF, sF_shift _ 1 (sortP C).length 0]
    rw [e4, sF_congr _ _ (fun i _ hi => e2 i (by omega))]
    have h6 : 0 ≤ (2 + tb) ^ (25 - yat (hlD tb C) ((0 : Nat) : Int)).toNat := Int.pow_nonneg (by omega)
    exact ⟨by omega, fun h7 => by omega⟩
  · have e : jlO tb C = sortP C := by
      unfold jlO
      exact if_neg h5
    have e2 : sF (fun i => if 0 < yat C ((sortP C).getD i 0) then (2 + tb) ^ (25 - yat (hlL tb C C.length) ((sortP C).getD i 0)).toNat else 0) 0 (sortP C).length = sF (fun i => (2 + tb) ^ (25 - yat (hlD tb C) i).toNat) 0 (jlO tb C).length := by
      rw [e]
      refine sF_congr _ _ fun i _ hi => ?_
      have := h4 i (by rw [e]; omega) (by
        rw [e]
        exact ((sortP_ok C).2 _ |>.mp (by rw [getD_get (by omega)]; exact List.getElem_mem _)).1)
      rw [e] at this
      exact this
    rw [e2]
    exact ⟨Int.le_refl _, fun _ => rfl⟩
end
