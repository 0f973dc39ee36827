/-! the pure part: two rows of trees, and the search of the lightest -/
/-- where the reference keeps the tree i of the class -/
def ph (N n : Nat) (O : List Int) (i : Nat) : Nat := if i < n then (O.getD i 0 + 1).toNat else N + 1 + (i - n)
/-- the tree b is the lightest of those that are there, the first of them -/
def isL (W B : List Int) (next b : Nat) : Prop := b < next ∧ yat B b ≠ 0 ∧ ∀ k, k < next → yat B k ≠ 0 → k ≠ b → yat W b < yat W k ∨ (yat W b = yat W k ∧ b < k)
theorem liF_isL {W B : List Int} {next b : Nat} (h : isL W B next b) : ∀ (j k : Nat) (l : Int), k + j = next → (b < k → l = b) → (k ≤ b → l < 0 ∨ ∃ l' : Nat, l = l' ∧ l' < k ∧ yat B l' ≠ 0) → liF W B j k l = b
  | 0, k, l, hk, h1, _ => h1 (by have := h.1; omega)
  | j + 1, k, l, hk, h1, h2 => by
    obtain ⟨hb1, hb2, hb3⟩ := h
    unfold liF
    refine liF_isL ⟨hb1, hb2, hb3⟩ j (k + 1) _ (by omega) (fun h3 => ?_) (fun h3 => ?_)
    · by_cases hkb : k = b
      · subst hkb
        refine if_pos ⟨hb2, ?_⟩
        rcases h2 (Nat.le_refl _) with h4 | ⟨l', rfl, h5, h6⟩
        · exact .inl h4
        · refine .inr ?_
          rcases hb3 l' (by omega) h6 (by omega) with h7 | h7
          · exact h7
          · omega
      · have := h1 (by omega)
        subst this
        refine if_neg fun h4 => ?_
        rcases h4.2 with h5 | h5
        · omega
        · rcases hb3 k (by omega) h4.1 hkb with h7 | h7 <;> omega
    · by_cases h4 : yat B k ≠ 0 ∧ (l < 0 ∨ yat W k < yat W l)
      · rw [if_pos h4]
        exact .inr ⟨k, rfl, by omega, h4.1⟩
      · rw [if_neg h4]
        rcases h2 (by omega) with h5 | ⟨l', rfl, h5, h6⟩
        · exact .inl h5
        · exact .inr ⟨l', rfl, by omega, h6⟩
theorem liF_best {W B : List Int} {next b : Nat} (h : isL W B next b) : liF W B next 0 (-1) = b := liF_isL h next 0 (-1) (by omega) (fun h => by omega) (fun _ => .inl (by omega))
/-- the trees that are left -/
abbrev lft (n m ns nj i : Nat) : Prop := (ns ≤ i ∧ i < n) ∨ (nj ≤ i ∧ i < m)
/-- rows of trees are in order -/
def sdW (N n : Nat) (O W : List Int) : Prop := n ≤ W.length ∧ (∀ i j : Nat, i < j → j < n → yat W i < yat W j ∨ (yat W i = yat W j ∧ ph N n O i < ph N n O j)) ∧ (∀ i j : Nat, n ≤ i → i < j → j < W.length → yat W i ≤ yat W j) ∧ (∀ x ∈ W, 0 ≤ x) ∧ (∀ i, i < n → ph N n O i < N + 1) ∧ (∀ i j, i < n → j < n → ph N n O i = ph N n O j → i = j)
/-- class and reference while trees are joined -/
def hmR (N n : Nat) (O W Pa : List Int) (ns nj : Nat) (w : Int) (next : Nat) (q : jmT) : Prop :=
  (ns ≤ n ∧ n ≤ nj ∧ nj ≤ W.length ∧ Pa.length = W.length) ∧ next + n = N + 1 + W.length ∧ (next < 2 * N + 2 ∧ q.1.length = 2 * N + 2 ∧ q.2.1.length = 2 * N + 2 ∧ q.2.2.length = 2 * N + 2) ∧
  (∀ i : Nat, i < W.length → yat q.1 (ph N n O i) = yat W i) ∧
  (∀ k : Nat, k < next → (yat q.2.2 k ≠ 0 ↔ ∃ i, lft n W.length ns nj i ∧ ph N n O i = k)) ∧
  (∀ i : Nat, i < W.length → (lft n W.length ns nj i ∧ yat Pa i = -1 ∧ yat q.2.1 (ph N n O i) = 0) ∨ (¬ lft n W.length ns nj i ∧ (i : Int) < yat Pa i ∧ n ≤ yat Pa i ∧ yat Pa i ≤ W.length ∧ yat q.2.1 (ph N n O i) = ph N n O (yat Pa i).toNat)) ∧
  yat q.1 next = w
section
variable {N n : Nat} {O W Pa : List Int} {ns nj : Nat} {w : Int} {next : Nat} {q : jmT}
theorem ph_j {i : Nat} (h : n ≤ i) : ph N n O i = N + 1 + (i - n) := by
  unfold ph
  exact if_neg (by omega)
theorem ph_inj (hs : sdW N n O W) {i j : Nat} (hi : ph N n O i = ph N n O j) : i = j := by
  obtain ⟨-, -, -, -, ho, hinj⟩ := hs
  by_cases h1 : i < n
  · by_cases h2 : j < n
    · exact hinj i j h1 h2 hi
    · have := ho i h1
      rw [ph_j (show n ≤ j by omega)] at hi
      omega
  · by_cases h2 : j < n
    · have := ho j h2
      rw [ph_j (show n ≤ i by omega)] at hi
      omega
    · rw [ph_j (show n ≤ j by omega), ph_j (show n ≤ i by omega)] at hi
      omega
theorem ph_lt (hs : sdW N n O W) (hr : hmR N n O W Pa ns nj w next q) {i : Nat} (hi : i < W.length) : ph N n O i < next := by
  by_cases h1 : i < n
  · have := hs.2.2.2.2.1 i h1
    have := hr.2.1
    have := hs.1
    omega
  · rw [ph_j (by omega)]
    have := hr.2.1
    omega
/-- the tree that is taken -/
theorem hm_best (hs : sdW N n O W) (hr : hmR N n O W Pa ns nj w next q) (hk : 0 < (n - ns) + (W.length - nj)) : ∃ c, c = (if tkB n W ns nj then ns else nj) ∧ lft n W.length ns nj c ∧ c < W.length ∧ liF q.1 q.2.2 next 0 (-1) = ph N n O c ∧ (∀ i, lft n W.length ns nj i → yat W c ≤ yat W i) := by
  have hr0 := hr
  obtain ⟨⟨r1, r2, r3, r4⟩, r5, r6, r7, r8, r9, r10⟩ := hr
  obtain ⟨s1, s2, s3, s4, s5, s6⟩ := hs
  have hb : ∃ c, c = (if tkB n W ns nj then ns else nj) ∧ lft n W.length ns nj c ∧ c < W.length ∧ (∀ i, lft n W.length ns nj i → i ≠ c → yat W c < yat W i ∨ (yat W c = yat W i ∧ ph N n O c < ph N n O i)) := by
    refine ⟨_, rfl, ?_⟩
    by_cases ht : tkB n W ns nj
    · rw [if_pos ht]
      obtain ⟨t1, t2⟩ := ht
      refine ⟨.inl ⟨Nat.le_refl _, t1⟩, by omega, fun i hi hne => ?_⟩
      rcases hi with hi | hi
      · exact s2 ns i (by omega) hi.2
      · have h1 := s5 ns t1
        rw [ph_j (show n ≤ i by omega)]
        rcases t2 with t2 | t2
        · omega
        · by_cases h2 : i = nj
          · subst h2
            omega
          · have := s3 nj i (by omega) (by omega) hi.2
            omega
    · rw [if_neg ht]
      have t1 : nj < W.length := by
        by_cases h3 : ns < n
        · exact Decidable.byContradiction fun g4 => ht ⟨h3, .inl (by omega)⟩
        · omega
      refine ⟨.inr ⟨Nat.le_refl _, t1⟩, t1, fun i hi hne => ?_⟩
      rcases hi with hi | hi
      · have h4 : yat W nj < yat W ns := by
          refine Decidable.byContradiction fun g4 => ht ⟨by omega, .inr (by omega)⟩
        by_cases h2 : i = ns
        · subst h2
          exact .inl h4
        · have := s2 ns i (by omega) hi.2
          omega
      · rw [ph_j r2, ph_j (show n ≤ i by omega)]
        have := s3 nj i r2 (by omega) hi.2
        omega
  obtain ⟨c, e, h1, h2, h3⟩ := hb
  refine ⟨c, e, h1, h2, liF_best ⟨ph_lt ⟨s1, s2, s3, s4, s5, s6⟩ hr0 h2, (r8 _ (ph_lt ⟨s1, s2, s3, s4, s5, s6⟩ hr0 h2)).mpr ⟨c, h1, rfl⟩, fun k hk1 hk2 hk3 => ?_⟩, fun i hi => ?_⟩
  · obtain ⟨i, hi, hp⟩ := (r8 k hk1).mp hk2
    have hne : i ≠ c := fun h => hk3 (by rw [← hp, h])
    have := h3 i hi hne
    rw [r7 c h2, ← hp, r7 i (by rcases hi with hi | hi <;> omega)]
    exact this
  · by_cases hne : i = c
    · rw [hne]
      exact Int.le_refl _
    · have := h3 i hi hne
      omega
theorem yat_pn {X : List Int} {k j : Nat} {v : Int} (hk : k < X.length) : yat (yput X k v) j = if j = k then v else yat X j := by
  split
  · rename_i h
    rw [h, yat_pu (by omega)]
  · exact yat_ne (by omega)
/-- one part is taken -/
theorem hm_part (hs : sdW N n O W) (hr : hmR N n O W Pa ns nj w next q) (hk : 0 < (n - ns) + (W.length - nj)) : ∃ c, c < W.length ∧ lft n W.length ns nj c ∧ (∀ i, lft n W.length ns nj i → yat W c ≤ yat W i) ∧ (∀ j, jIn n W (j + 1) ns nj w Pa = jIn n W j (if tkB n W ns nj then ns + 1 else ns) (if tkB n W ns nj then nj else nj + 1) (w + yat W c) (Pa.set c W.length)) ∧ (∀ j, jpF next (j + 1) q = jpF next j (yput q.1 next (yat q.1 next + yat q.1 (liF q.1 q.2.2 next 0 (-1))), yput q.2.1 (liF q.1 q.2.2 next 0 (-1)) next, yput q.2.2 (liF q.1 q.2.2 next 0 (-1)) 0)) ∧ hmR N n O W (Pa.set c W.length) (if tkB n W ns nj then ns + 1 else ns) (if tkB n W ns nj then nj else nj + 1) (w + yat W c) next (yput q.1 next (yat q.1 next + yat q.1 (liF q.1 q.2.2 next 0 (-1))), yput q.2.1 (liF q.1 q.2.2 next 0 (-1)) next, yput q.2.2 (liF q.1 q.2.2 next 0 (-1)) 0) ∧ (n - (if tkB n W ns nj then ns + 1 else ns)) + (W.length - (if tkB n W ns nj then nj else nj + 1)) + 1 = (n - ns) + (W.length - nj) := by
  obtain ⟨c, e, c1, c2, c3, c4⟩ := hm_best hs hr hk
  have hlt : ∀ {i : Nat}, i < W.length → ph N n O i < next := fun hi => ph_lt hs hr hi
  have hcl := hlt c2
  have hinj : ∀ {i j : Nat}, ph N n O i = ph N n O j → i = j := fun h => ph_inj hs h
  obtain ⟨⟨r1, r2, r3, r4⟩, r5, r6, r7, r8, r9, r10⟩ := hr
  have hlf : ∀ i, lft n W.length (if tkB n W ns nj then ns + 1 else ns) (if tkB n W ns nj then nj else nj + 1) i ↔ lft n W.length ns nj i ∧ i ≠ c := by
    intro i
    by_cases ht : tkB n W ns nj
    · rw [if_pos ht] at e
      have := ht.1
      rw [if_pos ht, if_pos ht]
      unfold lft
      omega
    · rw [if_neg ht] at e
      rw [if_neg ht, if_neg ht]
      unfold lft at c1 ⊢
      omega
  refine ⟨c, c2, c1, c4, fun j => ?_, fun j => rfl, ?_, ?_⟩
  · rw [jIn]
    by_cases ht : tkB n W ns nj
    · rw [if_pos ht] at e
      subst e
      rw [if_pos ht, if_pos ht, if_pos ht]
    · rw [if_neg ht] at e
      subst e
      rw [if_neg ht, if_neg ht, if_neg ht]
  · rw [c3]
    have hph : ph N n O W.length = next := by
      rw [ph_j (by omega)]
      omega
    refine ⟨?_, r5, ⟨r6.1, by rw [yput_len]; exact r6.2.1, by rw [yput_len]; exact r6.2.2.1, by rw [yput_len]; exact r6.2.2.2⟩, fun i hi => ?_, fun k hk2 => ?_, fun i hi => ?_, ?_⟩
    · rw [List.length_set]
      by_cases ht : tkB n W ns nj
      · have := ht.1
        rw [if_pos ht, if_pos ht]
        exact ⟨this, r2, r3, r4⟩
      · rw [if_neg ht] at e
        rw [if_neg ht, if_neg ht]
        unfold lft at c1
        exact ⟨r1, by omega, by omega, r4⟩
    · show yat (yput q.1 next _) (ph N n O i) = _
      have := hlt hi
      rw [yat_ne (by omega)]
      exact r7 i hi
    · show yat (yput q.2.2 (ph N n O c) 0) k ≠ 0 ↔ _
      rw [yat_pn (by omega)]
      constructor
      · intro h
        split at h
        · exact absurd rfl h
        · rename_i h2
          obtain ⟨i, hi, hp⟩ := (r8 k hk2).mp h
          exact ⟨i, (hlf i).mpr ⟨hi, fun h3 => h2 (by rw [← hp, h3])⟩, hp⟩
      · rintro ⟨i, hi, hp⟩
        have h5 := (hlf i).mp hi
        rw [if_neg (fun h6 => h5.2 (hinj (hp.trans h6)))]
        exact (r8 k hk2).mpr ⟨i, h5.1, hp⟩
    · show (_ ∧ yat (Pa.set c W.length) i = -1 ∧ yat (yput q.2.1 (ph N n O c) next) (ph N n O i) = 0) ∨ (_ ∧ (i : Int) < yat (Pa.set c W.length) i ∧ n ≤ yat (Pa.set c W.length) i ∧ yat (Pa.set c W.length) i ≤ W.length ∧ yat (yput q.2.1 (ph N n O c) next) (ph N n O i) = ph N n O (yat (Pa.set c W.length) i).toNat)
      rw [← yput_n, yat_pn (by omega), yat_pn (by omega), hlf]
      by_cases hic : i = c
      · subst hic
        rw [if_pos rfl, if_pos rfl]
        refine .inr ⟨fun h => h.2 rfl, by omega, by omega, Int.le_refl _, ?_⟩
        rw [Int.toNat_natCast, hph]
      · rw [if_neg hic, if_neg (fun h => hic (hinj h))]
        rcases r9 i hi with h1 | h1
        · exact .inl ⟨⟨h1.1, hic⟩, h1.2⟩
        · exact .inr ⟨fun h => h1.1 h.1, h1.2⟩
    · show yat (yput q.1 next (yat q.1 next + yat q.1 (ph N n O c))) next = _
      rw [yat_pu (by omega), r10, r7 c c2]
  · by_cases ht : tkB n W ns nj
    · have := ht.1
      rw [if_pos ht, if_pos ht]
      omega
    · rw [if_neg ht] at e
      rw [if_neg ht, if_neg ht]
      unfold lft at c1
      omega
end
