/-! the pure part: lengths in order are the same both ways, and aligned -/
section
variable {C : List Int}
abbrev poO (C : List Int) : List Int := (posP C).map (fun x => x - 1)
theorem ph_pos {i : Nat} (hi : i < (posP C).length) : ((ph 25 (posP C).length (poO C) i : Nat) : Int) = yat (posP C) i := by
  have h := ((posP_ok C).2 (yat (posP C) i)).mp (yat_mem hi)
  unfold ph
  rw [if_pos hi, getD_get (by rw [List.length_map]; exact hi), List.getElem_map, ← getD_get (d := 0) hi, ← yat_n]
  omega
theorem ciL_get {n i : Nat} (hi : i < n) : yat (ciL n) i = i := by
  rw [yat_n, getD_get (by rw [ciL_len]; exact hi)]
  simp [ciL]
theorem or_start (hC : C.length = 26) (hnn : ∀ x ∈ C, 0 ≤ x) : oR (posP C).length (poO C) (pw C (posP C)) (List.replicate (posP C).length (-1)) (ciL (posP C).length) 26 (i0Q C) := by
  have hl := pw_len C (posP C)
  have hle := posP_len C
  have hO : ∀ i : Nat, i < (posP C).length → 0 ≤ yat (posP C) i ∧ yat (posP C) i < 26 := fun i hi => by
    have h := ((posP_ok C).2 (yat (posP C) i)).mp (yat_mem hi)
    omega
  refine ⟨⟨by rw [hl, List.length_replicate], by omega, by omega, by simp [i0Q, hC], by simp [i0Q], fun k _ => yat_rep _ _⟩, ⟨?_, fun x hx => by rw [hl]; exact ciL_all _ x hx⟩, ?_, fun i hi => ?_, fun i hi => ?_, fun i hi => ?_, fun i j hi hj he => ?_⟩
  · unfold ciL
    refine List.Pairwise.map _ (fun a b h1 h2 => h1 (by omega)) List.nodup_range
  · show posP C = _
    refine ext_yat (by rw [List.length_map, ciL_len]) fun i hi => ?_
    rw [List.length_map, ciL_len] at hi
    rw [← ph_pos hi, yat_n, getD_get (by rw [List.length_map, ciL_len]; exact hi), List.getElem_map]
    have : (ciL (posP C).length)[i]'(by rw [ciL_len]; exact hi) = (i : Int) := by
      rw [← ciL_get hi, yat_n, getD_get]
    rw [this, Int.toNat_natCast]
  · rw [hl] at hi
    rw [ph_pos hi, pw_yat C _ hi]
    have := hO i hi
    show yat (C ++ List.replicate 26 0) _ = _
    rw [yat_app (by omega), yat_n]
  · rw [hl] at hi
    refine .inl ⟨?_, ?_, yat_rep _ _⟩
    · rw [← ciL_get hi]
      exact yat_mem (by rw [ciL_len]; exact hi)
    · rw [yat_n, getD_get (by rw [List.length_replicate]; exact hi), List.getElem_replicate]
  · rw [hl] at hi
    have := ph_pos hi
    have := hO i hi
    omega
  · rw [hl] at hi hj
    have h1 := ph_pos hi
    have h2 := ph_pos hj
    rw [he, h2] at h1
    have hp := List.pairwise_iff_getElem.mp (posP_ok C).1
    rw [yat_n, yat_n, getD_get hi, getD_get hj] at h1
    rcases Nat.lt_trichotomy i j with h3 | h3 | h3
    · have := hp i j hi hj h3
      omega
    · exact h3
    · have := hp j i hj hi h3
      omega
/-- what the run leaves -/
theorem go_run (hC : C.length = 26) (hnn : ∀ x ∈ C, 0 ≤ x) (h1 : 1 ≤ abF C) : ∃ m, m + 1 = 2 * (posP C).length ∧ (posP C).length ≤ 26 ∧ (∀ i : Nat, i < m → (i + 1 = m ∧ yat (iQ C).2.1 (ph 25 (posP C).length (poO C) i) = 0 ∧ yat (goD C) i = 0) ∨ ∃ p : Nat, i < p ∧ p < m ∧ (posP C).length ≤ p ∧ yat (iQ C).2.1 (ph 25 (posP C).length (poO C) i) = ph 25 (posP C).length (poO C) p ∧ yat (goD C) i = yat (goD C) p + 1) ∧ GL ((posP C).length - 1) (pw C (posP C)) ((ciL (posP C).length).map (fun x => yat (goD C) x)) ∧ ((ciL (posP C).length).map (fun x => yat (pw C (posP C)) x * yat (goD C) x)).sum = gjF C := by
  have hn := posP_n C
  have hle := posP_len C
  have hl := pw_len C (posP C)
  obtain ⟨r, hr⟩ : ∃ r, (posP C).length = r + 1 := ⟨(posP C).length - 1, by omega⟩
  have hpos : ∀ x ∈ pw C (posP C), 0 < x := fun x hx => by
    unfold pw at hx
    obtain ⟨o, ho, rfl⟩ := List.mem_map.mp hx
    exact (((posP_ok C).2 o).mp ho).2.2
  have hrun := gw_run r (pw C (posP C)) (List.replicate (posP C).length (-1)) (ciL (posP C).length) 26 (i0Q C) (or_start hC hnn) (by rw [ciL_len, hr]) (by omega) hpos (by
    rw [hl]
    have := yat_mem (W := ciL (posP C).length) (k := (posP C).length - 1) (by rw [ciL_len]; omega)
    rw [ciL_get (by omega)] at this
    exact this)
  have eg : gwF r (pw C (posP C)) (List.replicate (posP C).length (-1)) (ciL (posP C).length) = gwQ C := by
    unfold gwQ
    rw [show (posP C).length - 1 = r by omega]
  have ei : igF r 26 (i0Q C) = iQ C := by
    unfold iQ
    rw [show (posP C).length - 1 = r by omega]
  rw [eg, ei] at hrun
  obtain ⟨i1, i2, i3, i4, i5, i6⟩ := hrun
  rw [hl] at i3
  obtain ⟨x, hx⟩ := List.length_eq_one_iff.mp i2
  obtain ⟨-, -, -, -, g11, -, -⟩ := i1
  rw [hx] at i4 g11
  have hxm : x = (((gwQ C).1.length - 1 : Nat) : Int) := (List.mem_singleton.mp i4).symm
  have hdp := dpF_at (gwQ C).2.1 ((gwQ C).1.length - 1) (List.replicate (gwQ C).1.length 0) (by simp) (fun i hi => by
    rcases g11 i (by omega) with h2 | ⟨_, p, h2, _, _, h3, _⟩
    · have := List.mem_singleton.mp h2.1
      omega
    · omega)
  have eD : dpF (gwQ C).2.1 ((gwQ C).1.length - 1) (List.replicate (gwQ C).1.length 0) = goD C := rfl
  rw [eD] at hdp
  have hroot : yat (goD C) (((gwQ C).1.length - 1 : Nat) : Int) = 0 := by
    rw [hdp.1 _ (Nat.le_refl _)]
    exact yat_rep _ _
  refine ⟨(gwQ C).1.length, by omega, by omega, fun i hi => ?_, ?_⟩
  · rcases g11 i hi with ⟨h2, h3, h4⟩ | ⟨h2, p, h3, h4, h5, h6, h7⟩
    · have := List.mem_singleton.mp h2
      have e : i = (gwQ C).1.length - 1 := by omega
      refine .inl ⟨by omega, h4, ?_⟩
      rw [e]
      exact hroot
    · have := hdp.2 i (by omega)
      rw [h6] at this
      exact .inr ⟨p, h3, h4, h5, h7, this⟩
  · obtain ⟨hG, hS⟩ := i6 (goD C) (fun i p hi hp => by
      rcases g11 i hi with ⟨h2, h3, h4⟩ | ⟨h2, p', h3, h4, h5, h6, h7⟩
      · omega
      · have := hdp.2 i (by omega)
        rw [hp] at this
        exact this) (fun i hi hp => by
      rcases g11 i hi with ⟨h2, h3, h4⟩ | ⟨h2, p', h3, h4, h5, h6, h7⟩
      · have := List.mem_singleton.mp h2
        have e : i = (gwQ C).1.length - 1 := by omega
        rw [e]
        exact hroot
      · omega)
    have e1 := pw_ci (pw C (posP C))
    rw [hl] at e1
    rw [e1] at hG
    rw [hl] at hS
    rw [show (posP C).length - 1 = r by omega]
    exact ⟨hG, hS⟩
theorem go_rng (hC : C.length = 26) (hnn : ∀ x ∈ C, 0 ≤ x) (h1 : 1 ≤ abF C) {i : Nat} (hi : i < (posP C).length) : 0 ≤ yat (goD C) i ∧ yat (goD C) i ≤ 25 := by
  obtain ⟨m, m1, m2, m3, -⟩ := go_run hC hnn h1
  have key : ∀ k i : Nat, i < m → m ≤ i + 1 + k → 0 ≤ yat (goD C) i ∧ ((posP C).length ≤ i → yat (goD C) i + 1 + i ≤ m) ∧ (i < (posP C).length → yat (goD C) i + (posP C).length ≤ m) := by
    intro k
    induction k with
    | zero =>
      intro i hi hk
      rcases m3 i hi with h | ⟨p, h⟩
      · rw [h.2.2]
        omega
      · omega
    | succ k ih =>
      intro i hi hk
      rcases m3 i hi with h | ⟨p, h2, h3, h4, h5, h6⟩
      · rw [h.2.2]
        omega
      · have := ih p h3 (by omega)
        omega
  have := key m i (by omega) (by omega)
  omega
theorem goL_leaf {i : Nat} (hC : C.length = 26) (hi : i < (posP C).length) : yat (goL C 26) (yat (posP C) i) = yat (goD C) i := by
  have hm := ((posP_ok C).2 (yat (posP C) i)).mp (yat_mem hi)
  obtain ⟨s, hs⟩ := Int.eq_ofNat_of_zero_le hm.1
  rw [hs] at hm
  rw [hs, goL, spF_at _ _ 0 _ i s (pw_nd (posP_ok C).1) hi (by rw [← hs, yat_n]) (by simp; omega), Nat.zero_add]
/-- the trees joined in order weigh what the words cost -/
theorem gj_go (hC : C.length = 26) (hnn : ∀ x ∈ C, 0 ≤ x) (h1 : 1 ≤ abF C) : csF C (goL C 26) 26 0 0 = gjF C := by
  obtain ⟨m, m1, m2, m3, hG, hS⟩ := go_run hC hnn h1
  have h2 := pos_sF C (fun x => yat C x * yat (goL C 26) x) C.length 0 [] (by omega) (fun s hs => by
    have h3 := yat_nn hnn s
    have : yat C s = 0 := by omega
    show yat C s * _ = 0
    rw [this, Int.zero_mul])
  rw [List.map_nil, List.sum_nil, Int.zero_add, hC] at h2
  have e2 : posF C 26 0 [] = posP C := by
    unfold posP
    rw [hC]
  rw [csF_sF, Int.zero_add, ← h2, ← hS, e2]
  congr 1
  refine List.ext_getElem (by rw [List.length_map, List.length_map, ciL_len]) fun i h3 h4 => ?_
  rw [List.length_map] at h3
  rw [List.getElem_map, List.getElem_map]
  have h5 := goL_leaf hC h3
  have h6 : (ciL (posP C).length)[i]'(by rw [ciL_len]; exact h3) = (i : Int) := by
    rw [← ciL_get h3, yat_n, getD_get]
  have h7 : yat (posP C) i = (posP C)[i] := by rw [yat_n, getD_get h3]
  rw [h7] at h5
  rw [h6, pw_yat C _ h3, ← h5]
  congr 2
  rw [getD_get h3]
theorem goL_out (hC : C.length = 26) {s : Nat} (hs : s < 26) (h : ¬ 0 < yat C s) : yat (goL C 26) s = -1 := by
  unfold goL
  rw [spF_out]
  · rw [yat_n, getD_get (by simp; exact hs), List.getElem_replicate]
  · intro h2
    exact h (((posP_ok C).2 _).mp h2).2.2
theorem go_in (hC : C.length = 26) (hnn : ∀ x ∈ C, 0 ≤ x) (h1 : 1 ≤ abF C) : goL C 26 = inL C := by
  obtain ⟨m, m1, m2, m3, -⟩ := go_run hC hnn h1
  have hlen : (goL C 26).length = 26 := by
    unfold goL
    have : ∀ (D : List Int) (O : List Int) (k : Nat) (L : List Int), (spF D O k L).length = L.length := by
      intro D O
      induction O with
      | nil => intro k L; rfl
      | cons o t ih => intro k L; unfold spF; rw [ih, yput_len]
    rw [this]
    simp
  refine ext_yat (by rw [hlen, inL_len]) fun s hs => ?_
  rw [inL_len] at hs
  rw [inL_at C hs]
  by_cases h : 0 < yat C s
  · obtain ⟨i, hi, he⟩ := List.getElem_of_mem (((posP_ok C).2 s).mpr ⟨by omega, by omega, h⟩)
    have hg : yat (posP C) i = (s : Nat) := by rw [yat_n, getD_get hi, he]
    have h2 := goL_leaf hC hi
    rw [hg] at h2
    have h3 := jd_dp (N := 25) (n := (posP C).length) (O := poO C) (D := goD C) (I := (iQ C).2.1) (m := m) m3 52 i 0 (by omega) (by omega)
    have h4 := ph_pos hi
    rw [hg] at h4
    rw [h4] at h3
    rw [if_pos h, h2, h3]
    omega
  · rw [if_neg h, goL_out hC hs h]
theorem goL_rng (hC : C.length = 26) (hnn : ∀ x ∈ C, 0 ≤ x) (h1 : 1 ≤ abF C) {s : Nat} (hs : s < 26) : -1 ≤ yat (goL C 26) s ∧ yat (goL C 26) s ≤ 25 ∧ (0 ≤ yat (goL C 26) s ↔ 0 < yat C s) := by
  by_cases h : 0 < yat C s
  · obtain ⟨i, hi, he⟩ := List.getElem_of_mem (((posP_ok C).2 s).mpr ⟨by omega, by omega, h⟩)
    have hg : yat (posP C) i = (s : Nat) := by rw [yat_n, getD_get hi, he]
    have h2 := goL_leaf hC hi
    rw [hg] at h2
    have := go_rng hC hnn h1 hi
    omega
  · have := goL_out hC hs h
    omega
/-- the shares ahead of a sign -/
def cmS (C L : List Int) (s : Nat) : Int := sF (fun (o : Nat) => if 0 < yat C o then shr (yat L o) else 0) 0 s
theorem posF_acc (C : List Int) : ∀ (j p : Nat) (l : List Int), posF C j p l = l ++ posF C j p []
  | 0, p, l => by simp [posF]
  | j + 1, p, l => by
    unfold posF
    split
    · rw [posF_acc C j (p + 1) (l ++ [(p : Int)]), posF_acc C j (p + 1) ([] ++ [(p : Int)])]
      simp
    · exact posF_acc C j (p + 1) l
theorem al_pos (C L : List Int) : ∀ (j p : Nat) (a : Int), alP a ((posF C j p []).map (fun x => yat L x)) → (∀ s : Nat, p ≤ s → s < p + j → 0 < yat C s → shr (yat L s) ∣ a + sF (fun (o : Nat) => if 0 < yat C o then shr (yat L o) else 0) p (s - p)) ∧ szL ((posF C j p []).map (fun x => yat L x)) = sF (fun (o : Nat) => if 0 < yat C o then shr (yat L o) else 0) p j
  | 0, p, a, h => ⟨fun s h1 h2 => by omega, rfl⟩
  | j + 1, p, a, h => by
    have e : posF C (j + 1) p [] = if 0 < yat C p then (p : Int) :: posF C j (p + 1) [] else posF C j (p + 1) [] := by
      have e1 : posF C (j + 1) p [] = posF C j (p + 1) (if 0 < yat C p then [] ++ [(p : Int)] else []) := rfl
      rw [e1]
      split
      · rw [posF_acc]
        rfl
      · rfl
    rw [e] at h ⊢
    rw [sF]
    by_cases hp : 0 < yat C p
    · rw [if_pos hp] at h ⊢
      rw [if_pos hp]
      obtain ⟨h1, h2⟩ := h
      obtain ⟨i1, i2⟩ := al_pos C L j (p + 1) _ h2
      refine ⟨fun s g1 g2 g3 => ?_, ?_⟩
      · by_cases hs : s = p
        · rw [hs, Nat.sub_self]
          show _ ∣ a + 0
          rw [Int.add_zero]
          exact h1
        · have := i1 s (by omega) (by omega) g3
          rw [show s - p = (s - (p + 1)) + 1 by omega, sF, if_pos hp, ← Int.add_assoc]
          exact this
      · show shr _ + szL _ = _
        rw [i2]
    · rw [if_neg hp] at h ⊢
      rw [if_neg hp]
      obtain ⟨i1, i2⟩ := al_pos C L j (p + 1) _ h
      refine ⟨fun s g1 g2 g3 => ?_, by rw [i2]; omega⟩
      have hs : s ≠ p := fun hs => hp (hs ▸ g3)
      have := i1 s (by omega) (by omega) g3
      rw [show s - p = (s - (p + 1)) + 1 by omega, sF, if_neg hp, Int.zero_add]
      exact this
theorem go_al (hC : C.length = 26) (hnn : ∀ x ∈ C, 0 ≤ x) (h1 : 1 ≤ abF C) : (∀ s : Nat, s < 26 → 0 < yat C s → shr (yat (goL C 26) s) ∣ cmS C (goL C 26) s) ∧ cmS C (goL C 26) 26 = 2 ^ 25 := by
  obtain ⟨m, m1, m2, m3, hG, -⟩ := go_run hC hnn h1
  have hpos : ∀ x ∈ pw C (posP C), 0 < x := fun x hx => by
    unfold pw at hx
    obtain ⟨o, ho, rfl⟩ := List.mem_map.mp hx
    exact (((posP_ok C).2 o).mp ho).2.2
  have e1 : (ciL (posP C).length).map (fun x => yat (goD C) x) = (posP C).map (fun x => yat (goL C 26) x) := by
    refine List.ext_getElem (by rw [List.length_map, List.length_map, ciL_len]) fun i h2 h3 => ?_
    rw [List.length_map] at h3
    rw [List.getElem_map, List.getElem_map]
    have h4 := goL_leaf hC h3
    have h5 : (ciL (posP C).length)[i]'(by rw [ciL_len]; exact h3) = (i : Int) := by
      rw [← ciL_get h3, yat_n, getD_get]
    rw [h5, ← h4, yat_n (posP C), getD_get h3]
  rw [e1] at hG
  have hal := GL_al _ _ _ hG hpos (fun x hx => by
    obtain ⟨o, ho, rfl⟩ := List.mem_map.mp hx
    obtain ⟨i, hi, rfl⟩ := List.getElem_of_mem ho
    have h4 := goL_leaf hC hi
    rw [yat_n (posP C), getD_get hi] at h4
    rw [h4]
    exact (go_rng hC hnn h1 hi).2)
  have e2 : posP C = posF C 26 0 [] := by
    unfold posP
    rw [hC]
  rw [e2] at hal
  obtain ⟨i1, i2⟩ := al_pos C (goL C 26) 26 0 0 hal.1
  refine ⟨fun s hs h2 => ?_, ?_⟩
  · have := i1 s (Nat.zero_le _) (by omega) h2
    rw [Nat.sub_zero, Int.zero_add] at this
    exact this
  · rw [hal.2] at i2
    exact i2.symm
end
