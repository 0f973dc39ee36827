/-! the pure part: lengths of the least code are the same -/
section
variable {C : List Int} {tb : Int}
theorem jlO_srt : srt C (jlO tb C) := by
  have h := sortP_ok C
  unfold jlO
  split
  · unfold sh
    rw [List.take_zero, List.drop_zero, List.nil_append]
    refine List.pairwise_cons.mpr ⟨fun b hb => .inl ?_, h.1⟩
    have := (h.2 b).mp hb
    rw [yat_out C (.inl (by decide))]
    exact this.2.2
  · exact h.1
theorem jlO_mem (x : Int) : x ∈ jlO tb C ↔ (x = -1 ∧ tb = 1 ∧ abF C % 2 = 0) ∨ (0 ≤ x ∧ x < C.length ∧ 0 < yat C x) := by
  have h := (sortP_ok C).2 x
  have h2 := sortP_ab C
  unfold jlO
  split
  · rename_i h3
    rw [mem_sh, h]
    omega
  · rename_i h3
    rw [h]
    omega
theorem jlO_n : ((jlO tb C).length : Int) = abF C + jd0 (2 + tb).toNat C := by
  have h2 := sortP_ab C
  unfold jlO jd0
  by_cases h3 : tb = 1 ∧ (sortP C).length % 2 = 0
  · rw [if_pos h3, sh_len, if_pos ⟨by omega, by omega⟩]
    omega
  · rw [if_neg h3, if_neg (by omega)]
    omega
theorem pw_yat (C O : List Int) {i : Nat} (hi : i < O.length) : yat (pw C O) i = yat C (O.getD i 0) := by
  rw [yat_n, pw_at hi, yat_n]
theorem flF_at (ws : List Int) {s : Nat} (hs : s < ws.length) : yat (flF ws) s = if 0 < yat ws s then 1 else 0 := by
  rw [yat_n, yat_n]
  unfold flF
  rw [List.getD_eq_getElem?_getD, List.getElem?_map, List.getD_eq_getElem?_getD, List.getElem?_eq_getElem hs]
  rfl
theorem yat_cons1 {x : Int} {t : List Int} {s : Nat} : yat (x :: t) ((s + 1 : Nat) : Int) = yat t s := by
  rw [yat_n, yat_n]
  rfl
theorem yat_cons0 {x : Int} {t : List Int} : yat (x :: t) ((0 : Nat) : Int) = x := by
  rw [yat_n]
  rfl
theorem hm_start (htb : tb = 0 ∨ tb = 1) (hnn : ∀ x ∈ C, 0 ≤ x) : sdW C.length (jlO tb C).length (jlO tb C) (pw C (jlO tb C)) ∧ hmR C.length (jlO tb C).length (jlO tb C) (pw C (jlO tb C)) (List.replicate (jlO tb C).length (-1)) 0 (jlO tb C).length 0 (C.length + 1) (j0Q (2 + tb).toNat C) := by
  have hsr := jlO_srt (C := C) (tb := tb)
  have hmem := jlO_mem (C := C) (tb := tb)
  have hlen := pw_len C (jlO tb C)
  have hnd := srt_nd hsr
  obtain ⟨O, hO⟩ : ∃ O, O = jlO tb C := ⟨_, rfl⟩
  rw [← hO] at hsr hmem hlen hnd ⊢
  have hget : ∀ i : Nat, i < O.length → -1 ≤ O.getD i 0 ∧ O.getD i 0 < C.length := fun i hi => by
    have := (hmem (O.getD i 0)).mp (by rw [getD_get hi]; exact List.getElem_mem _)
    omega
  have hph : ∀ i : Nat, i < O.length → ph C.length O.length O i = (O.getD i 0 + 1).toNat := fun i hi => by
    unfold ph
    exact if_pos hi
  have hpw := List.pairwise_iff_getElem.mp hsr
  have hs : sdW C.length O.length O (pw C O) := by
    refine ⟨by omega, fun i j hij hj => ?_, fun i j h1 h2 h3 => by omega, fun x hx => ?_, fun i hi => ?_, fun i j hi hj h => ?_⟩
    · have h1 := hpw i j (by omega) hj hij
      rw [pw_yat C O (by omega), pw_yat C O hj, hph i (by omega), hph j hj, getD_get hj, getD_get (show i < O.length by omega)]
      have h2 := hget i (by omega)
      have h3 := hget j hj
      rw [getD_get hj] at h3
      rw [getD_get (show i < O.length by omega)] at h2
      rcases h1 with h1 | h1
      · exact .inl h1
      · exact .inr ⟨h1.1, by omega⟩
    · obtain ⟨o, _, rfl⟩ := List.mem_map.mp hx
      exact yat_nn hnn o
    · have := hget i hi
      rw [hph i hi]
      omega
    · have h2 := hget i hi
      have h3 := hget j hj
      rw [hph i hi, hph j hj] at h
      have h4 : O.getD i 0 = O.getD j 0 := by omega
      rw [getD_get hi, getD_get hj] at h4
      rcases Nat.lt_trichotomy i j with g | g | g
      · have := hpw i j hi hj g
        rw [h4] at this
        unfold plt at this
        omega
      · exact g
      · have := hpw j i hj hi g
        rw [h4] at this
        unfold plt at this
        omega
  have hj := j0_I (b := (2 + tb).toNat) hnn (by omega)
  refine ⟨hs, ⟨Nat.zero_le _, Nat.le_refl _, by omega, by simp [hlen]⟩, by omega, ⟨by omega, hj.1, hj.2.1, hj.2.2.1⟩, fun i hi => ?_, fun k hk => ?_, fun i hi => ?_, ?_⟩
  · have hi2 : i < O.length := by omega
    have h2 := hget i hi2
    rw [pw_yat C O hi2, hph i hi2]
    show yat (0 :: C ++ List.replicate (C.length + 1) 0) _ = _
    rw [yat_app (by rw [List.length_cons]; omega)]
    by_cases h3 : O.getD i 0 = -1
    · rw [h3, yat_out C (.inl (by decide))]
      rfl
    · obtain ⟨s, hs2⟩ := Int.eq_ofNat_of_zero_le (show 0 ≤ O.getD i 0 by omega)
      rw [hs2, show ((s : Int) + 1).toNat = s + 1 by omega, yat_cons1]
  · show yat (jd0 (2 + tb).toNat C :: flF C ++ List.replicate (C.length + 1) 0) k ≠ 0 ↔ _
    have fl : (flF C).length = C.length := List.length_map _
    rw [yat_app (by simp [fl]; omega)]
    have hex : ∀ x : Int, -1 ≤ x → (x ∈ O ↔ ∃ i, lft O.length (pw C O).length 0 O.length i ∧ ph C.length O.length O i = (x + 1).toNat) := by
      intro x hx
      constructor
      · intro h
        obtain ⟨i, hi, he⟩ := List.getElem_of_mem h
        refine ⟨i, .inl ⟨Nat.zero_le _, hi⟩, ?_⟩
        rw [hph i hi, getD_get hi, he]
      · rintro ⟨i, hi, he⟩
        have hi2 : i < O.length := by unfold lft at hi; omega
        have h2 := hget i hi2
        rw [hph i hi2] at he
        have h4 : O.getD i 0 = x := by omega
        rw [← h4, getD_get hi2]
        exact List.getElem_mem _
    cases k with
    | zero =>
      rw [yat_cons0]
      have h1 := hex (-1) (by omega)
      rw [show ((-1 : Int) + 1).toNat = 0 by omega] at h1
      rw [← h1, hmem]
      unfold jd0
      split
      · rename_i h2
        simp only [ne_eq, Int.reduceEq, not_false_eq_true, true_iff]
        exact .inl ⟨trivial, by omega, h2.2⟩
      · rename_i h2
        simp only [ne_eq, not_true, false_iff]
        rintro (h3 | h3)
        · exact h2 ⟨by omega, h3.2.2⟩
        · omega
    | succ s =>
      rw [yat_cons1, flF_at C (by omega)]
      have h1 := hex s (by omega)
      rw [show ((s : Int) + 1).toNat = s + 1 by omega] at h1
      rw [← h1, hmem]
      split
      · rename_i h2
        simp only [ne_eq, Int.reduceEq, not_false_eq_true, true_iff]
        exact .inr ⟨by omega, by omega, h2⟩
      · rename_i h2
        simp only [ne_eq, not_true, false_iff]
        rintro (h3 | h3)
        · omega
        · exact h2 h3.2.2
  · refine .inl ⟨.inl ⟨Nat.zero_le _, by omega⟩, ?_, yat_rep _ _⟩
    rw [yat_n, getD_get (by simp; omega), List.getElem_replicate]
  · show yat (0 :: C ++ List.replicate (C.length + 1) 0) ((C.length + 1 : Nat) : Int) = 0
    rw [yat_apr (by simp), yat_rep]
theorem ltS_one {n m ns nj : Nat} (h1 : (n - ns) + (m - nj) = 1) (h2 : ns ≤ n ∧ n ≤ nj ∧ nj ≤ m) {i : Nat} (hi : lft n m ns nj i) (hm : lft n m ns nj (m - 1)) : i = m - 1 := by
  unfold lft at hi hm
  omega
/-- the whole run of joining -/
theorem hl_run (htb : tb = 0 ∨ tb = 1) (hnn : ∀ x ∈ C, 0 ≤ x) (h1 : 1 ≤ abF C) : ∃ m r, m = (jlQ tb C).2.2.1.length ∧ (jlO tb C).length = r * ((2 + tb).toNat - 1) + 1 ∧ m = (jlO tb C).length + r ∧ ((jlQ tb C).1 ≤ (jlO tb C).length ∧ (jlO tb C).length ≤ (jlQ tb C).2.1 ∧ (jlQ tb C).2.1 ≤ m) ∧ ((jlO tb C).length - (jlQ tb C).1) + (m - (jlQ tb C).2.1) = 1 ∧ lft (jlO tb C).length m (jlQ tb C).1 (jlQ tb C).2.1 (m - 1) ∧ sdW C.length (jlO tb C).length (jlO tb C) (jlQ tb C).2.2.1 ∧ jlQ tb C = jOut (jlO tb C).length (2 + tb).toNat r 0 (jlO tb C).length (pw C (jlO tb C)) (List.replicate (jlO tb C).length (-1)) ∧ m ≤ 2 * C.length + 2 ∧ (∀ i : Nat, i < m → (i + 1 = m ∧ yat (jQ (2 + tb).toNat C).2.1 (ph C.length (jlO tb C).length (jlO tb C) i) = 0 ∧ yat (hlD tb C) i = 0 ∧ yat (jlQ tb C).2.2.2 i = -1) ∨ (∃ p : Nat, i < p ∧ p < m ∧ (jlO tb C).length ≤ p ∧ yat (jQ (2 + tb).toNat C).2.1 (ph C.length (jlO tb C).length (jlO tb C) i) = ph C.length (jlO tb C).length (jlO tb C) p ∧ yat (hlD tb C) i = yat (hlD tb C) p + 1 ∧ yat (jlQ tb C).2.2.2 i = p)) := by
  obtain ⟨hs, hr⟩ := hm_start htb hnn
  have hb : (2 + tb).toNat = 2 ∨ (2 + tb).toNat = 3 := by omega
  have hj := j0_I hnn hb
  obtain ⟨hjr, hjr2⟩ := jr_t hb h1
  have hn := jlO_n (C := C) (tb := tb)
  have hlO := jlO_len (C := C) htb
  have hpl := pw_len C (jlO tb C)
  have htt : jlT tb = (2 + tb).toNat := by
    unfold jlT
    split <;> omega
  obtain ⟨r, hr2⟩ : ∃ r, r = jrN (2 + tb).toNat C := ⟨_, rfl⟩
  have hnr : (jlO tb C).length = r * ((2 + tb).toNat - 1) + 1 := by
    rw [← hr2] at hjr
    rcases htb with h | h
    · rw [h] at hjr hn ⊢
      rw [show ((2 : Int) + 0).toNat = 2 from rfl] at hjr hn ⊢
      simp only [Int.cast_ofNat_Int] at hjr
      omega
    · rw [h] at hjr hn ⊢
      rw [show ((2 : Int) + 1).toNat = 3 from rfl] at hjr hn ⊢
      simp only [Int.cast_ofNat_Int] at hjr
      omega
  have hrr : ((jlO tb C).length - 1) / (jlT tb - 1) = r := by
    rw [htt, hnr, Nat.add_sub_cancel]
    exact Nat.mul_div_cancel _ (by omega)
  have hrn : r + 1 ≤ (jlO tb C).length := by
    rw [hnr]
    have := Nat.le_mul_of_pos_right r (show 0 < (2 + tb).toNat - 1 by omega)
    omega
  have ho := hm_out hb r 0 (jlO tb C).length (C.length + 1) (pw C (jlO tb C)) (List.replicate (jlO tb C).length (-1)) (j0Q (2 + tb).toNat C) 0 hs hr (by
    rw [hpl, show (((jlO tb C).length - 0 + ((jlO tb C).length - (jlO tb C).length) : Nat) : Int) = abF C + jd0 (2 + tb).toNat C by omega]
    exact hj) (Int.le_refl _) (by omega) (by omega) (fun i hi => yat_nn hs.2.2.2.1 i) (fun i g1 g2 => by omega) (fun i hi => by
    rw [yat_n, getD_get (by simp; omega), List.getElem_replicate]
    omega)
  have hQ : jlQ tb C = jOut (jlO tb C).length (2 + tb).toNat r 0 (jlO tb C).length (pw C (jlO tb C)) (List.replicate (jlO tb C).length (-1)) := by
    rw [jlQ, hrr, htt]
  have hJ : jQ (2 + tb).toNat C = jmF (2 + tb).toNat r (C.length + 1) (j0Q (2 + tb).toNat C) := by
    rw [jQ, ← hr2]
  rw [← hQ, ← hJ, hpl] at ho
  obtain ⟨o1, o2, o3, o4, o5⟩ := ho
  obtain ⟨m, hm⟩ : ∃ m, m = (jlQ tb C).2.2.1.length := ⟨_, rfl⟩
  rw [← hm] at o3 o4 o5
  have hlast : lft (jlO tb C).length m (jlQ tb C).1 (jlQ tb C).2.1 (m - 1) := by
    rcases o1.2.2.2.2.2.1 (m - 1) (by omega) with h2 | h2
    · rw [← hm] at h2
      exact h2.1
    · have h3 := o5 (m - 1) (by omega)
      have h4 := h2.2.1
      omega
  have hPl := o1.1.2.2.2
  rw [← hm] at hPl
  have hd := dpF_at (jlQ tb C).2.2.2 (m - 1) (List.replicate m 0) (by simp) (fun i hi => by
    rcases o1.2.2.2.2.2.1 i (by omega) with h2 | h2
    · rw [← hm] at h2
      have := ltS_one o3 (by rw [hm]; exact ⟨o1.1.1, o1.1.2.1, o1.1.2.2.1⟩) h2.1 hlast
      omega
    · exact h2.2.1)
  have hD : hlD tb C = dpF (jlQ tb C).2.2.2 (m - 1) (List.replicate m 0) := by
    rw [hlD, dpA, ← hm]
  rw [← hD] at hd
  refine ⟨m, r, hm, hnr, by omega, by rw [hm]; exact ⟨o1.1.1, o1.1.2.1, o1.1.2.2.1⟩, o3, hlast, o2, hQ, by omega, fun i hi => ?_⟩
  rcases o1.2.2.2.2.2.1 i (by omega) with h2 | h2
  · rw [← hm] at h2
    have := ltS_one o3 (by rw [hm]; exact ⟨o1.1.1, o1.1.2.1, o1.1.2.2.1⟩) h2.1 hlast
    refine .inl ⟨by omega, h2.2.2, ?_, h2.2.1⟩
    rw [hd.1 i (by omega)]
    exact yat_rep _ _
  · have h3 := o5 i hi
    have h4 := h2.2.1
    obtain ⟨p, hp⟩ := Int.eq_ofNat_of_zero_le (show 0 ≤ yat (jlQ tb C).2.2.2 i by omega)
    refine .inr ⟨p, by omega, by omega, by have := h2.2.2.1; omega, ?_, ?_, hp⟩
    · rw [h2.2.2.2.2, hp]
      rfl
    · rw [hd.2 i (by omega), hp]
/-- lengths by two rows of trees are those by search -/
theorem joF_hlL (htb : tb = 0 ∨ tb = 1) (hnn : ∀ x ∈ C, 0 ≤ x) (h1 : 1 ≤ abF C) : joF (2 + tb).toNat C = hlL tb C C.length := by
  obtain ⟨m, r, r1, r2, r3, r4, r5, r6, r7, r8, r9, r10⟩ := hl_run htb hnn h1
  have hmem := jlO_mem (C := C) (tb := tb)
  have hnd := srt_nd (jlO_srt (C := C) (tb := tb))
  refine List.ext_getElem (by rw [joF_len, hlL_len]) fun k hk1 hk2 => ?_
  rw [joF_len] at hk1
  have e1 := joF_at (2 + tb).toNat C hk1
  rw [yat_n, getD_get (by rw [joF_len]; exact hk1)] at e1
  rw [e1]
  have e2 : (hlL tb C C.length)[k] = yat (hlL tb C C.length) k := by rw [yat_n, getD_get hk2]
  rw [e2, hlL]
  split
  · rename_i h2
    obtain ⟨i, hi, he⟩ := List.getElem_of_mem ((hmem k).mpr (.inr ⟨by omega, by omega, h2⟩))
    have hg : (jlO tb C).getD i 0 = (k : Nat) := by rw [getD_get hi, he]
    rw [spF_at (hlD tb C) (jlO tb C) 0 _ i k hnd hi hg (by simp; exact hk1), Nat.zero_add]
    have hph : ph C.length (jlO tb C).length (jlO tb C) i = k + 1 := by
      unfold ph
      rw [if_pos hi, hg]
      omega
    have := jd_dp (m := m) (fun i hi => by
      rcases r10 i hi with g | ⟨p, g1, g2, g3, g4, g5, g6⟩
      · exact .inl ⟨g.1, g.2.1, g.2.2.1⟩
      · exact .inr ⟨p, g1, g2, g3, g4, g5⟩) (2 * C.length + 2) i 0 (by omega) (by omega)
    rw [hph] at this
    rw [show ((k : Int) + 1) = ((k + 1 : Nat) : Int) by omega, this]
    omega
  · rename_i h2
    rw [spF_out (hlD tb C) (jlO tb C) 0 _ k (fun h => ?_)]
    · rw [yat_n, getD_get (by simp; exact hk1), List.getElem_replicate]
    · rcases (hmem k).mp h with h3 | h3
      · omega
      · exact h2 h3.2.2
end
