/-! the pure part: rounds of joining -/
section
variable {N n : Nat} {O W Pa : List Int} {ns nj : Nat} {w : Int} {next : Nat} {q : jmT}
theorem hm_in (hs : sdW N n O W) {m0 S : Int} (hm0 : 0 ≤ m0) : ∀ (j s : Nat) (ns nj : Nat) (w : Int) (Pa : List Int) (q : jmT) (mc t : Int), hmR N n O W Pa ns nj w next q → jmI (2 * N + 2) next t S q → (j : Int) ≤ t → j ≤ (n - ns) + (W.length - nj) → m0 ≤ mc → (s : Int) * m0 ≤ w → w ≤ (s : Int) * mc → (1 ≤ s → mc ≤ w) → (∀ i, lft n W.length ns nj i → mc ≤ yat W i) → hmR N n O W (jIn n W j ns nj w Pa).2.2.2 (jIn n W j ns nj w Pa).1 (jIn n W j ns nj w Pa).2.1 (jIn n W j ns nj w Pa).2.2.1 next (jpF next j q) ∧ jmI (2 * N + 2) next (t - j) S (jpF next j q) ∧ (n - (jIn n W j ns nj w Pa).1) + (W.length - (jIn n W j ns nj w Pa).2.1) + j = (n - ns) + (W.length - nj) ∧ ∃ mc', m0 ≤ mc' ∧ ((s + j : Nat) : Int) * m0 ≤ (jIn n W j ns nj w Pa).2.2.1 ∧ (jIn n W j ns nj w Pa).2.2.1 ≤ ((s + j : Nat) : Int) * mc' ∧ (1 ≤ s + j → mc' ≤ (jIn n W j ns nj w Pa).2.2.1) ∧ (∀ i, lft n W.length (jIn n W j ns nj w Pa).1 (jIn n W j ns nj w Pa).2.1 i → mc' ≤ yat W i)
  | 0, s, ns, nj, w, Pa, q, mc, t, hr, hj, _, _, hm, h1, h2, h3, h4 => by
    refine ⟨hr, ?_, by rfl, mc, hm, h1, h2, h3, h4⟩
    rw [show t - ((0 : Nat) : Int) = t by omega]
    exact hj
  | j + 1, s, ns, nj, w, Pa, q, mc, t, hr, hj, ht, hk, hm, h1, h2, h3, h4 => by
    obtain ⟨c, c1, c2, c3, c4, c5, c6, c7⟩ := hm_part hs hr (by omega)
    have hj2 := jm_part hj (by omega) (by have := hr.2.2.1; omega)
    rw [c4, c5]
    have hmc := h4 c c2
    have hw0 : 0 ≤ w := by
      have := Int.mul_nonneg (Int.natCast_nonneg s) hm0
      omega
    have e1 : ((s + 1 : Nat) : Int) * m0 = s * m0 + m0 := by rw [Int.natCast_add, Int.add_mul]; simp
    have e2 : ((s + 1 : Nat) : Int) * yat W c = s * yat W c + yat W c := by rw [Int.natCast_add, Int.add_mul]; simp
    have e3 : (s : Int) * mc ≤ s * yat W c := Int.mul_le_mul_of_nonneg_left hmc (Int.natCast_nonneg s)
    have ih := hm_in hs hm0 j (s + 1) _ _ _ _ _ (yat W c) (t - 1) c6 hj2 (by omega) (by omega) (by omega) (by omega) (by omega) (fun _ => by omega) (fun i hi => c3 i (by
      unfold lft at hi ⊢
      by_cases hb : tkB n W ns nj
      · rw [if_pos hb, if_pos hb] at hi
        omega
      · rw [if_neg hb, if_neg hb] at hi
        omega))
    obtain ⟨i1, i2, i3, mc', i4, i5, i6, i7, i8⟩ := ih
    refine ⟨i1, ?_, by omega, mc', i4, ?_, ?_, fun _ => i7 (by omega), i8⟩
    · rw [show t - ((j + 1 : Nat) : Int) = t - 1 - j by omega]
      exact i2
    · rw [show s + (j + 1) = s + 1 + j by omega]
      exact i5
    · rw [show s + (j + 1) = s + 1 + j by omega]
      exact i6
theorem yat_ap1 {X : List Int} {v : Int} {i : Nat} (h : i < X.length) : yat (X ++ [v]) i = yat X i := yat_app (by omega)
theorem yat_ap2 {X : List Int} {v : Int} : yat (X ++ [v]) (X.length : Nat) = v := yat_last X v
theorem sd_push (hs : sdW N n O W) (hw0 : 0 ≤ w) (hw : ∀ i : Nat, n ≤ i → i < W.length → yat W i ≤ w) : sdW N n O (W ++ [w]) := by
  obtain ⟨s1, s2, s3, s4, s5, s6⟩ := hs
  refine ⟨by simp; omega, fun i j hi hj => ?_, fun i j h1 h2 h3 => ?_, fun x hx => ?_, s5, s6⟩
  · rw [yat_ap1 (by omega), yat_ap1 (by omega)]
    exact s2 i j hi hj
  · rw [List.length_append, List.length_singleton] at h3
    rw [yat_ap1 (by omega)]
    by_cases h4 : j = W.length
    · rw [h4, yat_ap2]
      exact hw i h1 (by omega)
    · rw [yat_ap1 (by omega)]
      exact s3 i j h1 h2 (by omega)
  · rcases List.mem_append.mp hx with h | h
    · exact s4 x h
    · rw [List.mem_singleton.mp h]
      exact hw0
theorem hm_push {t S : Int} (hs : sdW N n O W) (hr : hmR N n O W Pa ns nj w next q) (hj : jmI (2 * N + 2) next t S q) (hN : next + 1 < 2 * N + 2) : hmR N n O (W ++ [w]) (Pa ++ [-1]) ns nj 0 (next + 1) (q.1, q.2.1, yput q.2.2 next 1) := by
  have hlt : ∀ {i : Nat}, i < W.length → ph N n O i < next := fun hi => ph_lt hs hr hi
  have hn1 := hs.1
  obtain ⟨⟨r1, r2, r3, r4⟩, r5, r6, r7, r8, r9, r10⟩ := hr
  obtain ⟨j1, j2, j3, j4, j5, j6, j7, j8, j9, j10⟩ := hj
  have hph : ph N n O W.length = next := by
    rw [ph_j (by omega)]
    omega
  have hl : (W ++ [w]).length = W.length + 1 := by simp
  refine ⟨⟨r1, r2, by omega, by simp; omega⟩, by omega, ⟨hN, r6.2.1, r6.2.2.1, by rw [yput_len]; exact r6.2.2.2⟩, fun i hi => ?_, fun k hk => ?_, fun i hi => ?_, ?_⟩
  · by_cases h1 : i = W.length
    · subst h1
      rw [hph, yat_ap2]
      exact r10
    · rw [yat_ap1 (by omega)]
      exact r7 i (by omega)
  · show yat (yput q.2.2 next 1) k ≠ 0 ↔ _
    rw [yat_pn (by omega), hl]
    by_cases h1 : k = next
    · rw [if_pos h1]
      simp only [ne_eq, Int.reduceEq, not_false_eq_true, true_iff]
      exact ⟨W.length, .inr ⟨r3, by omega⟩, hph.trans h1.symm⟩
    · rw [if_neg h1, r8 k (by omega)]
      constructor
      · rintro ⟨i, hi, hp⟩
        exact ⟨i, by unfold lft at hi ⊢; omega, hp⟩
      · rintro ⟨i, hi, hp⟩
        refine ⟨i, ?_, hp⟩
        by_cases h2 : i = W.length
        · subst h2
          omega
        · unfold lft at hi ⊢
          omega
  · rw [hl]
    by_cases h1 : i = W.length
    · subst h1
      refine .inl ⟨.inr ⟨r3, by omega⟩, ?_, ?_⟩
      · rw [← r4, yat_ap2]
      · rw [hph]
        rcases j10 next with h2 | h2
        · exact h2
        · omega
    · rw [yat_ap1 (by omega)]
      rcases r9 i (by omega) with h2 | h2
      · refine .inl ⟨by have := h2.1; unfold lft at this ⊢; omega, h2.2⟩
      · refine .inr ⟨fun h3 => h2.1 (by unfold lft at h3 ⊢; omega), h2.2.1, h2.2.2.1, by have := h2.2.2.2.1; omega, h2.2.2.2.2⟩
  · exact j8 (next + 1) (by omega)
theorem hm_out {t : Nat} (ht : t = 2 ∨ t = 3) {S : Int} : ∀ (r ns nj next : Nat) (W Pa : List Int) (q : jmT) (m0 : Int), sdW N n O W → hmR N n O W Pa ns nj 0 next q → jmI (2 * N + 2) next (((n - ns) + (W.length - nj) : Nat) : Int) S q → 0 ≤ m0 → (n - ns) + (W.length - nj) = r * (t - 1) + 1 → next + r < 2 * N + 2 → (∀ i, lft n W.length ns nj i → m0 ≤ yat W i) → (∀ i : Nat, n ≤ i → i < W.length → yat W i ≤ t * m0) → (∀ i : Nat, i < W.length → yat Pa i < W.length) → hmR N n O (jOut n t r ns nj W Pa).2.2.1 (jOut n t r ns nj W Pa).2.2.2 (jOut n t r ns nj W Pa).1 (jOut n t r ns nj W Pa).2.1 0 (next + r) (jmF t r next q) ∧ sdW N n O (jOut n t r ns nj W Pa).2.2.1 ∧ (n - (jOut n t r ns nj W Pa).1) + ((jOut n t r ns nj W Pa).2.2.1.length - (jOut n t r ns nj W Pa).2.1) = 1 ∧ (jOut n t r ns nj W Pa).2.2.1.length = W.length + r ∧ ∀ i : Nat, i < (jOut n t r ns nj W Pa).2.2.1.length → yat (jOut n t r ns nj W Pa).2.2.2 i < (jOut n t r ns nj W Pa).2.2.1.length
  | 0, ns, nj, next, W, Pa, q, m0, hs, hr, hj, _, hk, _, _, _, h3 => ⟨hr, hs, by show (n - ns) + (W.length - nj) = 1; omega, rfl, h3⟩
  | r + 1, ns, nj, next, W, Pa, q, m0, hs, hr, hj, hm0, hk, hN, h1, h2, h3 => by
    have hk2 : (n - ns) + (W.length - nj) = r * (t - 1) + 1 + (t - 1) := by
      rw [hk, Nat.add_mul]
      omega
    obtain ⟨i1, i2, i3, mc, i4, i5, i6, i7, i8⟩ := hm_in hs hm0 t 0 ns nj 0 Pa q m0 _ hr hj (by omega) (by omega) (Int.le_refl _) (by simp) (by simp) (fun h => by omega) h1
    rw [Nat.zero_add] at i5 i6 i7
    have hi7 := i7 (by omega)
    have hjl := jm_next i2 (by omega)
    have hp := hm_push hs i1 i2 (by omega)
    have hw0 : 0 ≤ (jIn n W t ns nj 0 Pa).2.2.1 := by omega
    have hl : (W ++ [(jIn n W t ns nj 0 Pa).2.2.1]).length = W.length + 1 := by simp
    have hsd := sd_push hs hw0 (fun i g1 g2 => by have := h2 i g1 g2; omega)
    have hnj := i1.1.2.2.1
    have ih := hm_out ht r _ _ (next + 1) (W ++ [(jIn n W t ns nj 0 Pa).2.2.1]) ((jIn n W t ns nj 0 Pa).2.2.2 ++ [-1]) ((jpF next t q).1, (jpF next t q).2.1, yput (jpF next t q).2.2 next 1) mc hsd hp (by
      rw [hl, show (((n - (jIn n W t ns nj 0 Pa).1) + (W.length + 1 - (jIn n W t ns nj 0 Pa).2.1) : Nat) : Int) = (((n - ns) + (W.length - nj) : Nat) : Int) - t + 1 by omega]
      exact hjl) (by omega) (by rw [hl]; omega) (by omega) (fun i hi => by
      by_cases g1 : i = W.length
      · rw [g1, yat_ap2]
        exact hi7
      · rw [hl] at hi
        have g2 : lft n W.length (jIn n W t ns nj 0 Pa).1 (jIn n W t ns nj 0 Pa).2.1 i := by
          unfold lft at hi ⊢
          omega
        rw [yat_ap1 (by have := hs.1; unfold lft at g2; omega)]
        exact i8 i g2) (fun i g1 g2 => by
      by_cases g3 : i = W.length
      · rw [g3, yat_ap2]
        exact i6
      · rw [yat_ap1 (by omega)]
        have := h2 i g1 (by omega)
        have : (t : Int) * m0 ≤ t * mc := Int.mul_le_mul_of_nonneg_left i4 (Int.natCast_nonneg t)
        omega) (fun i g1 => by
      have hpl := i1.1.2.2.2
      rw [hl] at g1 ⊢
      by_cases g3 : i = W.length
      · rw [g3, ← hpl, yat_ap2]
        omega
      · rw [yat_ap1 (by omega)]
        rcases i1.2.2.2.2.2.1 i (by omega) with g4 | g4
        · have := g4.2.1
          omega
        · have := g4.2.2.2.1
          omega)
    rw [jOut, jmF]
    rw [show next + (r + 1) = next + 1 + r by omega]
    refine ⟨ih.1, ih.2.1, ih.2.2.1, ?_, ih.2.2.2.2⟩
    rw [ih.2.2.2.1, hl]
    omega
/-- depths by parents -/
theorem dpF_at (Pa : List Int) : ∀ (j : Nat) (D : List Int), j ≤ D.length → (∀ i : Nat, i < j → (i : Int) < yat Pa i) → (∀ i : Nat, j ≤ i → yat (dpF Pa j D) i = yat D i) ∧ (∀ i : Nat, i < j → yat (dpF Pa j D) i = yat (dpF Pa j D) (yat Pa i) + 1)
  | 0, D, _, _ => ⟨fun _ _ => rfl, fun i h => by omega⟩
  | j + 1, D, hj, hP => by
    have ih := dpF_at Pa j (D.set j (yat D (yat Pa j) + 1)) (by rw [List.length_set]; omega) (fun i hi => hP i (by omega))
    rw [dpF]
    have hs : ∀ i : Nat, j ≤ i → yat (dpF Pa j (D.set j (yat D (yat Pa j) + 1))) i = if i = j then yat D (yat Pa j) + 1 else yat D i := fun i hi => by
      rw [ih.1 i hi, ← yput_n, yat_pn (by omega)]
    refine ⟨fun i hi => by rw [hs i (by omega), if_neg (by omega)], fun i hi => ?_⟩
    by_cases h1 : i = j
    · subst h1
      have h2 := hP i (by omega)
      obtain ⟨p, hp⟩ := Int.eq_ofNat_of_zero_le (show 0 ≤ yat Pa i by omega)
      have h3 := hs p (by omega)
      rw [if_neg (by omega), ← hp] at h3
      rw [hs i (Nat.le_refl _), if_pos rfl, h3]
    · exact ih.2 i (by omega)
theorem jd_dp {D I : List Int} {m : Nat} (hI : ∀ i : Nat, i < m → (i + 1 = m ∧ yat I (ph N n O i) = 0 ∧ yat D i = 0) ∨ (∃ p : Nat, i < p ∧ p < m ∧ n ≤ p ∧ yat I (ph N n O i) = ph N n O p ∧ yat D i = yat D p + 1)) : ∀ (f i : Nat) (c : Int), i < m → m ≤ f + i → jdF I f (yat I (ph N n O i)) c = c + yat D i
  | 0, i, c, hi, hf => by omega
  | f + 1, i, c, hi, hf => by
    rcases hI i hi with ⟨h1, h2, h3⟩ | ⟨p, h1, h2, h3, h4, h5⟩
    · rw [h2, h3, jdF, if_neg (by omega)]
      omega
    · rw [h4, jdF, if_pos (by rw [ph_j h3]; omega), jd_dp hI f p (c + 1) h2 (by omega), h5]
      omega
theorem spF_out (D : List Int) : ∀ (O : List Int) (k : Nat) (L : List Int) (s : Nat), (s : Int) ∉ O → yat (spF D O k L) s = yat L s
  | [], _, _, _, _ => rfl
  | o :: t, k, L, s, h => by
    rw [spF, spF_out D t _ _ s (fun h2 => h (List.mem_cons_of_mem _ h2))]
    exact yat_ne (fun h2 => h (by rw [h2]; exact List.mem_cons_self ..))
theorem spF_at (D : List Int) : ∀ (O : List Int) (k : Nat) (L : List Int) (i s : Nat), O.Nodup → i < O.length → O.getD i 0 = s → s < L.length → yat (spF D O k L) s = yat D ((k + i : Nat) : Int)
  | [], _, _, _, _, _, h, _, _ => by simp at h
  | o :: t, k, L, 0, s, hn, _, h, hs => by
    have h2 : o = s := h
    subst h2
    rw [spF, spF_out D t _ _ s (List.nodup_cons.mp hn).1, yat_pu (by omega)]
    rfl
  | o :: t, k, L, i + 1, s, hn, hi, h, hs => by
    rw [spF, spF_at D t (k + 1) _ i s (List.nodup_cons.mp hn).2 (by simpa using hi) h (by rw [yput_len]; exact hs)]
    rw [show k + 1 + i = k + (i + 1) by omega]
end
