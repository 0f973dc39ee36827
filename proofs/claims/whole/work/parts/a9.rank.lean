/-! the pure part: ranks of words -/
theorem sF_updr {f g : Nat → Int} {c : Nat} : ∀ (k a : Nat), a ≤ c → c < a + k → (∀ i, a ≤ i → i < a + k → i ≠ c → f i = g i) → sF f a k = sF g a k + (f c - g c)
  | 0, _, _, _, _ => by omega
  | k + 1, a, h1, h2, h => by
    rw [sF, sF]
    by_cases hc : c = a
    · subst hc
      rw [sF_congr (f := f) (g := g) k (c + 1) (fun i g1 g2 => h i (by omega) (by omega) (by omega))]
      omega
    · rw [sF_updr k (a + 1) (by omega) (by omega) (fun i g1 g2 g3 => h i (by omega) (by omega) g3), h a (Nat.le_refl _) (by omega) (Ne.symm hc)]
      omega
section
variable {b : Int} {L W : List Int} {kind : Int}
/-- how many words begin below -/
def cnB (b : Int) (L W : List Int) (t : Int) : Int := sF (fun o => if 0 ≤ yat L o ∧ vl b L W o < t then 1 else 0) 0 L.length
def cnA (L : List Int) : Int := sF (fun o => if 0 ≤ yat L o then 1 else 0) 0 L.length
theorem vl_ne (hb : 0 < b) (ha : apart b L W) {s o : Nat} (hs : s < L.length) (ho : o < L.length) (h : 0 ≤ yat L s) (h2 : 0 ≤ yat L o) (hne : s ≠ o) : vl b L W s ≠ vl b L W o := by
  have h3 := ha.2 s o hs ho h h2 hne
  have h4 := vw_pos (L := L) hb o
  have h5 := vw_pos (L := L) hb s
  omega
theorem cnB_add (hb : 0 < b) (ha : apart b L W) {s : Nat} (hs : s < L.length) (h : 0 ≤ yat L s) : cnB b L W (vl b L W s + 1) = cnB b L W (vl b L W s) + 1 := by
  unfold cnB
  rw [sF_updr (f := fun o => if 0 ≤ yat L o ∧ vl b L W o < vl b L W s + 1 then 1 else 0) (g := fun o => if 0 ≤ yat L o ∧ vl b L W o < vl b L W s then 1 else 0) (c := s) L.length 0 (Nat.zero_le _) (by omega) (fun i _ hil hi => ?_)]
  · congr 1
    show (if 0 ≤ yat L s ∧ vl b L W s < vl b L W s + 1 then (1 : Int) else 0) - (if 0 ≤ yat L s ∧ vl b L W s < vl b L W s then 1 else 0) = 1
    rw [if_pos ⟨h, by omega⟩, if_neg (by omega)]
    rfl
  · have : (0 ≤ yat L i ∧ vl b L W i < vl b L W s + 1) ↔ (0 ≤ yat L i ∧ vl b L W i < vl b L W s) := by
      constructor
      · rintro ⟨h1, h2⟩
        refine ⟨h1, ?_⟩
        have := vl_ne hb ha (show i < L.length by omega) hs h1 h hi
        omega
      · rintro ⟨h1, h2⟩
        exact ⟨h1, by omega⟩
    simp only [this]
theorem cnB_le {t t' : Int} (h : t ≤ t') : cnB b L W t ≤ cnB b L W t' := by
  unfold cnB
  refine sF_mono _ _ fun i _ _ => ?_
  split
  · rename_i h1
    rw [if_pos ⟨h1.1, by omega⟩]
    exact Int.le_refl _
  · split <;> omega
theorem cnB_all (t : Int) : cnB b L W t ≤ cnA L := by
  unfold cnB cnA
  refine sF_mono _ _ fun i _ _ => ?_
  split
  · rename_i h1
    rw [if_pos h1.1]
    exact Int.le_refl _
  · split <;> omega
theorem cnB_same {t t' : Int} (h : ∀ i : Nat, i < L.length → 0 ≤ yat L i → (vl b L W i < t ↔ vl b L W i < t')) : cnB b L W t = cnB b L W t' := by
  unfold cnB
  refine sF_congr _ _ fun i _ hi => ?_
  have : (0 ≤ yat L i ∧ vl b L W i < t) ↔ (0 ≤ yat L i ∧ vl b L W i < t') := by
    constructor
    · rintro ⟨h1, h2⟩
      exact ⟨h1, (h i (by omega) h1).mp h2⟩
    · rintro ⟨h1, h2⟩
      exact ⟨h1, (h i (by omega) h1).mpr h2⟩
  simp only [this]
theorem cnB_nn (t : Int) : 0 ≤ cnB b L W t := by
  unfold cnB
  refine Int.le_trans (Int.le_of_eq (sF_0 L.length 0).symm) (sF_mono _ _ fun i _ _ => ?_)
  split <;> omega
/-- the lowest above -/
theorem snF_ok {d : Int → Int} {past : Int} : ∀ (j s : Nat) (f low : Int), (f = -1 ∨ (0 ≤ f ∧ f < s ∧ 0 ≤ yat L f ∧ past < d f ∧ low = d f)) → (snF d L past j s f low = -1 ∧ f = -1 ∧ ∀ i : Nat, s ≤ i → i < s + j → 0 ≤ yat L i → ¬ past < d i) ∨ (∃ r : Nat, snF d L past j s f low = r ∧ r < s + j ∧ 0 ≤ yat L r ∧ past < d r ∧ (0 ≤ f → d r ≤ d f) ∧ ∀ i : Nat, s ≤ i → i < s + j → 0 ≤ yat L i → past < d i → d r ≤ d i)
  | 0, s, f, low, hf => by
    rw [snF]
    rcases hf with hf | ⟨h1, h2, h3, h4, h5⟩
    · exact .inl ⟨hf, hf, fun i _ _ => by omega⟩
    · obtain ⟨r, hr⟩ := Int.eq_ofNat_of_zero_le h1
      subst hr
      exact .inr ⟨r, rfl, by omega, h3, h4, fun _ => Int.le_refl _, fun i _ _ => by omega⟩
  | j + 1, s, f, low, hf => by
    rw [snF]
    split
    · rename_i h
      obtain ⟨h1, h2, h3⟩ := h
      rcases snF_ok (d := d) (past := past) j (s + 1) s (d s) (.inr ⟨by omega, by omega, h1, h2, rfl⟩) with g | ⟨r, g1, g2, g3, g4, g5, g6⟩
      · omega
      · have g7 := g5 (by omega)
        refine .inr ⟨r, g1, by omega, g3, g4, fun hf0 => ?_, fun i q1 q2 q3 q4 => ?_⟩
        · rcases hf with hf | ⟨k1, k2, k3, k4, k5⟩
          · omega
          · rcases h3 with h3 | h3 <;> omega
        · by_cases hi : i = s
          · subst hi
            exact g7
          · exact g6 i (by omega) (by omega) q3 q4
    · rename_i h
      have hf' : f = -1 ∨ (0 ≤ f ∧ f < ((s + 1 : Nat) : Int) ∧ 0 ≤ yat L f ∧ past < d f ∧ low = d f) := by
        rcases hf with hf | hf
        · exact .inl hf
        · exact .inr ⟨hf.1, by omega, hf.2.2⟩
      rcases snF_ok j (s + 1) f low hf' with ⟨g1, g2, g3⟩ | ⟨r, g1, g2, g3, g4, g5, g6⟩
      · refine .inl ⟨g1, g2, fun i q1 q2 q3 q4 => ?_⟩
        by_cases hi : i = s
        · subst hi
          exact h ⟨q3, q4, .inl (by omega)⟩
        · exact g3 i (by omega) (by omega) q3 q4
      · refine .inr ⟨r, g1, by omega, g3, g4, g5, fun i q1 q2 q3 q4 => ?_⟩
        by_cases hi : i = s
        · subst hi
          rcases hf with hf | ⟨k1, k2, k3, k4, k5⟩
          · exact absurd ⟨q3, q4, .inl (by omega)⟩ h
          · have := g5 k1
            have : ¬ d i < low := fun q5 => h ⟨q3, q4, .inr q5⟩
            omega
        · exact g6 i (by omega) (by omega) q3 q4
/-- the class's sign of a rank -/
theorem srF_ok (hk : bs kind = b) (hb : 0 < b) (ha : apart b L W) : ∀ (j : Nat) (past f : Int), 1 ≤ j → cnB b L W (past + 1) + j ≤ cnA L → ∃ s : Nat, s < L.length ∧ 0 ≤ yat L s ∧ srF kind L W j past f = s ∧ cnB b L W (vl b L W s) = cnB b L W (past + 1) + j - 1
  | 0, past, f, h, _ => by omega
  | j + 1, past, f, _, hc => by
    have hd : ∀ i : Nat, dwF kind L W i = vl b L W i := fun i => by
      unfold dwF
      rw [hk]
    rw [srF]
    have hsb : sbhF kind L W past = snF (dwF kind L W) L past L.length 0 (-1) 0 := rfl
    rcases snF_ok (L := L) (d := dwF kind L W) (past := past) L.length 0 (-1) 0 (.inl rfl) with ⟨g1, g2, g3⟩ | ⟨r, g1, g2, g3, g4, g5, g6⟩
    · exfalso
      have : cnB b L W (past + 1) = cnA L := by
        unfold cnB cnA
        refine sF_congr _ _ fun i _ hi => ?_
        by_cases h1 : 0 ≤ yat L i
        · have := g3 i (Nat.zero_le _) hi h1
          rw [hd] at this
          rw [if_pos ⟨h1, by omega⟩, if_pos h1]
        · rw [if_neg (fun h => h1 h.1), if_neg h1]
      omega
    · rw [← hsb] at g1
      rw [g1, if_neg (by omega), hd]
      rw [hd] at g4
      rw [Nat.zero_add] at g2
      have e1 : cnB b L W (vl b L W r) = cnB b L W (past + 1) := cnB_same fun i hi h1 => by
        have := g6 i (Nat.zero_le _) (by omega) h1
        rw [hd, hd] at this
        omega
      have e2 := cnB_add hb ha g2 g3
      cases j with
      | zero =>
        refine ⟨r, g2, g3, rfl, ?_⟩
        omega
      | succ j =>
        obtain ⟨s, k1, k2, k3, k4⟩ := srF_ok hk hb ha (j + 1) (vl b L W r) r (by omega) (by omega)
        exact ⟨s, k1, k2, k3, by omega⟩
/-- the reference's count of words ahead -/
theorem asF_ok {q : cdT} (hk : bs q.1 = b) (hb : 0 < b) (ha : apart b q.2.1 q.2.2) (hL : ∀ x ∈ q.2.1, x ≤ 25) {s : Nat} (hs : s < q.2.1.length) (h : 0 ≤ yat q.2.1 s) : ∀ (j o : Nat) (n : Int), o + j = q.2.1.length → asF q s j o n = n + sF (fun o => if 0 ≤ yat q.2.1 o ∧ vl b q.2.1 q.2.2 o < vl b q.2.1 q.2.2 s then 1 else 0) o j
  | 0, o, n, ho => by rw [asF, sF]; omega
  | j + 1, o, n, ho => by
    rw [asF, asF_ok hk hb ha hL hs h j (o + 1) _ (by omega), sF]
    have e : (o ≠ s ∧ 0 ≤ yat q.2.1 s ∧ 0 ≤ yat q.2.1 o ∧ ahA q o s = 1) ↔ (0 ≤ yat q.2.1 o ∧ vl b q.2.1 q.2.2 o < vl b q.2.1 q.2.2 s) := by
      by_cases hos : o = s
      · subst hos
        constructor
        · rintro ⟨h1, _⟩
          exact absurd rfl h1
        · rintro ⟨_, h1⟩
          omega
      · by_cases h0 : 0 ≤ yat q.2.1 o
        · have hw1 := ap_lt hb ha hL (show o < q.2.1.length by omega) h0
          have hw2 := ap_lt hb ha hL hs h
          have := ahF_vl hb ha hL (show o < q.2.1.length by omega) hs hos 26 0 rfl (by omega) (by omega) (by
            rw [show (yat q.2.1 o - ((0 : Nat) : Int)).toNat = (yat q.2.1 o).toNat by omega, show (yat q.2.1 s - ((0 : Nat) : Int)).toNat = (yat q.2.1 s).toNat by omega, Int.ediv_eq_zero_of_lt hw1.1 hw1.2, Int.ediv_eq_zero_of_lt hw2.1 hw2.2])
          unfold ahA
          rw [hk]
          constructor
          · rintro ⟨_, _, _, h4⟩
            exact ⟨h0, this.mp h4⟩
          · rintro ⟨_, h4⟩
            exact ⟨hos, h, h0, this.mpr h4⟩
        · constructor
          · rintro ⟨_, _, h1, _⟩
            exact absurd h1 h0
          · rintro ⟨h1, _⟩
            exact absurd h1 h0
    by_cases h9 : 0 ≤ yat q.2.1 o ∧ vl b q.2.1 q.2.2 o < vl b q.2.1 q.2.2 s
    · rw [if_pos (e.mpr h9), if_pos h9]
      omega
    · rw [if_neg (fun g => h9 (e.mp g)), if_neg h9]
      omega
theorem saM_ok {q : cdT} {r : Int} (hL : q.2.1.length = 26) : ∀ (j s : Nat) (f : Int), s + j = 26 → ((∀ i : Nat, s ≤ i → i < 26 → ¬ (0 ≤ yat q.2.1 i ∧ asF q i 26 0 0 = r)) → saM q r j s f = f) ∧ (∀ i : Nat, s ≤ i → i < 26 → 0 ≤ yat q.2.1 i ∧ asF q i 26 0 0 = r → (∀ k : Nat, k < 26 → 0 ≤ yat q.2.1 k ∧ asF q k 26 0 0 = r → k = i) → saM q r j s f = i)
  | 0, s, f, hs => ⟨fun _ => rfl, fun i h1 h2 => by omega⟩
  | j + 1, s, f, hs => by
    rw [saM]
    refine ⟨fun h => ?_, fun i h1 h2 h3 h4 => ?_⟩
    · rw [if_neg (h s (Nat.le_refl _) (by omega))]
      exact (saM_ok hL j (s + 1) f (by omega)).1 fun i q1 q2 => h i (by omega) q2
    · by_cases hi : i = s
      · subst hi
        rw [if_pos h3]
        refine (saM_ok hL j (i + 1) i (by omega)).1 fun k q1 q2 q3 => ?_
        have := h4 k q2 q3
        omega
      · rw [if_neg (fun g => hi (h4 s (by omega) g).symm)]
        exact (saM_ok hL j (s + 1) f (by omega)).2 i (by omega) h2 h3 h4
theorem cnA_count : ∀ L : List Int, (∀ x ∈ L, -1 ≤ x) → cnA L = (L.length : Nat) - (L.count (-1) : Nat)
  | [], _ => rfl
  | x :: t, h => by
    have ih := cnA_count t fun y hy => h y (List.mem_cons_of_mem _ hy)
    have h0 := h x (List.mem_cons_self ..)
    unfold cnA at ih ⊢
    rw [List.length_cons, sF, sF_shift _ 1 t.length 0, List.count_cons]
    have e : sF (fun i => if 0 ≤ yat (x :: t) ((i + 1 : Nat) : Int) then (1 : Int) else 0) 0 t.length = sF (fun o => if 0 ≤ yat t o then 1 else 0) 0 t.length := sF_congr _ _ fun i _ _ => by rw [yat_cons1]
    rw [e, ih]
    show (if 0 ≤ x then (1 : Int) else 0) + _ = _
    by_cases hx : x = -1
    · subst hx
      simp
      omega
    · rw [if_pos (by omega), if_neg (by simpa using hx)]
      omega
/-- signAt: by drawing out and by counting those ahead -/
theorem sr_sa {q : cdT} (hk : bs q.1 = b) (hb : 0 < b) (ha : apart b q.2.1 q.2.2) (hL : q.2.1.length = 26) (hr : ∀ x ∈ q.2.1, -1 ≤ x ∧ x ≤ 25) (r : Int) : (0 ≤ r ∧ r < (q.2.1.length : Int) - (q.2.1.count (-1) : Nat) → saM q r 26 0 (-1) = srF q.1 q.2.1 q.2.2 (r + 1).toNat (-1) (-1) ∧ 0 ≤ srF q.1 q.2.1 q.2.2 (r + 1).toNat (-1) (-1)) ∧ (¬ (0 ≤ r ∧ r < (q.2.1.length : Int) - (q.2.1.count (-1) : Nat)) → saM q r 26 0 (-1) = -1) := by
  have hr2 : ∀ x ∈ q.2.1, x ≤ 25 := fun x hx => (hr x hx).2
  have hca := cnA_count q.2.1 fun x hx => (hr x hx).1
  have hrank : ∀ i : Nat, i < 26 → 0 ≤ yat q.2.1 i → asF q i 26 0 0 = cnB b q.2.1 q.2.2 (vl b q.2.1 q.2.2 i) := fun i hi h => by
    rw [asF_ok hk hb ha hr2 (show i < q.2.1.length by omega) h 26 0 0 (by omega), Int.zero_add]
    unfold cnB
    rw [hL]
  refine ⟨fun h => ?_, fun h => ?_⟩
  · have h0 : cnB b q.2.1 q.2.2 (-1 + 1) = 0 := by
      unfold cnB
      refine Eq.trans (sF_congr (g := fun _ => 0) _ _ fun i _ hi => if_neg fun g => ?_) (sF_0 _ 0)
      have := ha.1 i (by omega) g.1
      have h2 : 0 ≤ vl b q.2.1 q.2.2 i := Int.mul_nonneg this.1 (Int.le_of_lt (vw_pos hb i))
      have h3 := g.2
      omega
    obtain ⟨s, s1, s2, s3, s4⟩ := srF_ok hk hb ha (r + 1).toNat (-1) (-1) (by omega) (by rw [h0]; omega)
    rw [s3]
    refine ⟨?_, by omega⟩
    refine (saM_ok hL 26 0 (-1) rfl).2 s (Nat.zero_le _) (by omega) ⟨s2, by rw [hrank s (by omega) s2]; omega⟩ fun k k1 k2 => ?_
    rw [hrank k k1 k2.1] at k2
    refine Decidable.byContradiction fun hne => ?_
    have n1 := vl_ne hb ha (show k < q.2.1.length by omega) s1 k2.1 s2 hne
    have c1 := cnB_add hb ha (show k < q.2.1.length by omega) k2.1
    have c2 := cnB_add hb ha s1 s2
    rcases Int.lt_or_gt_of_ne n1 with g | g
    · have := cnB_le (b := b) (L := q.2.1) (W := q.2.2) (show vl b q.2.1 q.2.2 k + 1 ≤ vl b q.2.1 q.2.2 s by omega)
      omega
    · have := cnB_le (b := b) (L := q.2.1) (W := q.2.2) (show vl b q.2.1 q.2.2 s + 1 ≤ vl b q.2.1 q.2.2 k by omega)
      omega
  · refine (saM_ok hL 26 0 (-1) rfl).1 fun i _ hi g => h ?_
    rw [hrank i hi g.1] at g
    have c1 := cnB_add hb ha (show i < q.2.1.length by omega) g.1
    have c2 := cnB_all (b := b) (L := q.2.1) (W := q.2.2) (vl b q.2.1 q.2.2 i + 1)
    have c3 := cnB_nn (b := b) (L := q.2.1) (W := q.2.2) (vl b q.2.1 q.2.2 i)
    omega
end
