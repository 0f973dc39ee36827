/-! the pure part: what trees weigh together, level by level -/
/-- a sum over k places from a -/
def sF (f : Nat → Int) : Nat → Nat → Int
  | _, 0 => 0
  | a, k + 1 => f a + sF f (a + 1) k
theorem sF_end (f : Nat → Int) : ∀ (k a : Nat), sF f a (k + 1) = sF f a k + f (a + k)
  | 0, a => by
    rw [sF, sF, sF]
    show f a + 0 = 0 + f (a + 0)
    rw [Nat.add_zero]
    omega
  | k + 1, a => by
    rw [sF, sF_end f k (a + 1), sF, show a + 1 + k = a + (k + 1) by omega]
    omega
theorem sF_congr {f g : Nat → Int} : ∀ (k a : Nat), (∀ i, a ≤ i → i < a + k → f i = g i) → sF f a k = sF g a k
  | 0, _, _ => rfl
  | k + 1, a, h => by
    rw [sF, sF, h a (Nat.le_refl _) (by omega), sF_congr k (a + 1) (fun i h1 h2 => h i (by omega) (by omega))]
theorem yat_setn {X : List Int} {k j : Nat} {v : Int} (hk : k < X.length) : yat (X.set k v) j = if j = k then v else yat X j := by
  rw [← yput_n]
  exact yat_pn hk
section
variable {N n : Nat} {O W Pa : List Int} {ns nj : Nat} {w : Int} {next : Nat} {q : jmT}
/-- what is left, by a measure -/
abbrev lfS (f : Nat → Int) (n m ns nj : Nat) : Int := sF f ns (n - ns) + sF f nj (m - nj)
theorem jIn_cl : ∀ (j ns nj : Nat) (w : Int) (Pa : List Int), ns ≤ n → n ≤ nj → nj ≤ W.length → Pa.length = W.length → j ≤ (n - ns) + (W.length - nj) → (ns ≤ (jIn n W j ns nj w Pa).1 ∧ (jIn n W j ns nj w Pa).1 ≤ n ∧ nj ≤ (jIn n W j ns nj w Pa).2.1 ∧ (jIn n W j ns nj w Pa).2.1 ≤ W.length ∧ (jIn n W j ns nj w Pa).2.2.2.length = W.length ∧ (n - (jIn n W j ns nj w Pa).1) + (W.length - (jIn n W j ns nj w Pa).2.1) + j = (n - ns) + (W.length - nj)) ∧ (∀ i : Nat, i < W.length → yat (jIn n W j ns nj w Pa).2.2.2 i = if lft n W.length ns nj i ∧ ¬ lft n W.length (jIn n W j ns nj w Pa).1 (jIn n W j ns nj w Pa).2.1 i then (W.length : Int) else yat Pa i) ∧ (∀ (f : Nat → Int) (d e : Int), (∀ i, lft n W.length ns nj i → ¬ lft n W.length (jIn n W j ns nj w Pa).1 (jIn n W j ns nj w Pa).2.1 i → f i = d * yat W i + e) → lfS f n W.length ns nj = lfS f n W.length (jIn n W j ns nj w Pa).1 (jIn n W j ns nj w Pa).2.1 + d * ((jIn n W j ns nj w Pa).2.2.1 - w) + j * e)
  | 0, ns, nj, w, Pa, h1, h2, h3, h4, h5 => by
    refine ⟨⟨Nat.le_refl _, h1, Nat.le_refl _, h3, h4, rfl⟩, fun i hi => ?_, fun f d e _ => ?_⟩
    · rw [if_neg (fun h => h.2 h.1)]
      rfl
    · show _ = _ + d * (w - w) + ((0 : Nat) : Int) * e
      rw [Int.sub_self, Int.mul_zero]
      simp
      rfl
  | j + 1, ns, nj, w, Pa, h1, h2, h3, h4, h5 => by
    rw [jIn]
    by_cases ht : tkB n W ns nj
    · rw [if_pos ht]
      have h0 := ht.1
      obtain ⟨⟨i1, i2, i3, i4, i5, i6⟩, i7, i8⟩ := jIn_cl j (ns + 1) nj (w + yat W ns) (Pa.set ns W.length) (by omega) h2 h3 (by rw [List.length_set]; exact h4) (by omega)
      refine ⟨⟨by omega, i2, i3, i4, i5, by omega⟩, fun i hi => ?_, fun f d e hf => ?_⟩
      · rw [i7 i hi, yat_setn (by omega)]
        by_cases hin : i = ns
        · subst hin
          rw [if_neg (fun h => by unfold lft at h; omega), if_pos rfl, if_pos ⟨.inl ⟨Nat.le_refl _, h0⟩, fun h => by unfold lft at h; omega⟩]
        · rw [if_neg hin]
          have e1 : lft n W.length (ns + 1) nj i ↔ lft n W.length ns nj i := by unfold lft; omega
          simp only [e1]
      · have h6 := i8 f d e (fun i g1 g2 => hf i (by unfold lft at g1 ⊢; omega) g2)
        have h7 := hf ns (.inl ⟨Nat.le_refl _, h0⟩) (fun h => by unfold lft at h; omega)
        have h8 : sF f ns (n - ns) = f ns + sF f (ns + 1) (n - (ns + 1)) := by
          rw [show n - ns = (n - (ns + 1)) + 1 by omega, sF]
        unfold lfS at h6 ⊢
        rw [h8, h7]
        have h9 : d * ((jIn n W j (ns + 1) nj (w + yat W ns) (Pa.set ns W.length)).2.2.1 - w) = d * ((jIn n W j (ns + 1) nj (w + yat W ns) (Pa.set ns W.length)).2.2.1 - (w + yat W ns)) + d * yat W ns := by
          rw [← Int.mul_add]
          congr 1
          omega
        have h10 : ((j + 1 : Nat) : Int) * e = j * e + e := by rw [Int.natCast_add, Int.add_mul]; simp
        omega
    · rw [if_neg ht]
      have t1 : nj < W.length := by
        by_cases h3 : ns < n
        · exact Decidable.byContradiction fun g4 => ht ⟨h3, .inl (by omega)⟩
        · omega
      obtain ⟨⟨i1, i2, i3, i4, i5, i6⟩, i7, i8⟩ := jIn_cl j ns (nj + 1) (w + yat W nj) (Pa.set nj W.length) h1 (by omega) (by omega) (by rw [List.length_set]; exact h4) (by omega)
      refine ⟨⟨i1, i2, by omega, i4, i5, by omega⟩, fun i hi => ?_, fun f d e hf => ?_⟩
      · rw [i7 i hi, yat_setn (by omega)]
        by_cases hin : i = nj
        · subst hin
          rw [if_neg (fun h => by unfold lft at h; omega), if_pos rfl, if_pos ⟨.inr ⟨Nat.le_refl _, t1⟩, fun h => by unfold lft at h; omega⟩]
        · rw [if_neg hin]
          have e1 : lft n W.length ns (nj + 1) i ↔ lft n W.length ns nj i := by unfold lft; omega
          simp only [e1]
      · have h6 := i8 f d e (fun i g1 g2 => hf i (by unfold lft at g1 ⊢; omega) g2)
        have h7 := hf nj (.inr ⟨Nat.le_refl _, t1⟩) (fun h => by unfold lft at h; omega)
        have h8 : sF f nj (W.length - nj) = f nj + sF f (nj + 1) (W.length - (nj + 1)) := by
          rw [show W.length - nj = (W.length - (nj + 1)) + 1 by omega, sF]
        unfold lfS at h6 ⊢
        rw [h8, h7]
        have h9 : d * ((jIn n W j ns (nj + 1) (w + yat W nj) (Pa.set nj W.length)).2.2.1 - w) = d * ((jIn n W j ns (nj + 1) (w + yat W nj) (Pa.set nj W.length)).2.2.1 - (w + yat W nj)) + d * yat W nj := by
          rw [← Int.mul_add]
          congr 1
          omega
        have h10 : ((j + 1 : Nat) : Int) * e = j * e + e := by rw [Int.natCast_add, Int.add_mul]; simp
        omega
/-- what holds over all rounds -/
theorem jOut_cl {t : Nat} (ht : 2 ≤ t) : ∀ (r ns nj : Nat) (W Pa : List Int), ns ≤ n → n ≤ nj → nj ≤ W.length → Pa.length = W.length → (n - ns) + (W.length - nj) = r * (t - 1) + 1 → (∀ i : Nat, i < W.length → yat (jOut n t r ns nj W Pa).2.2.1 i = yat W i ∧ (¬ lft n W.length ns nj i → yat (jOut n t r ns nj W Pa).2.2.2 i = yat Pa i)) ∧ (∀ (f g d e : Nat → Int), (∀ i p : Nat, i < (jOut n t r ns nj W Pa).2.2.1.length → yat (jOut n t r ns nj W Pa).2.2.2 i = p → f i = d p * yat (jOut n t r ns nj W Pa).2.2.1 i + e p) → (∀ p : Nat, n ≤ p → p < (jOut n t r ns nj W Pa).2.2.1.length → d p * yat (jOut n t r ns nj W Pa).2.2.1 p + t * e p = f p + g p) → lfS f n W.length ns nj = lfS f n (jOut n t r ns nj W Pa).2.2.1.length (jOut n t r ns nj W Pa).1 (jOut n t r ns nj W Pa).2.1 + sF g W.length r)
  | 0, ns, nj, W, Pa, _, _, _, _, _ => ⟨fun _ _ => ⟨rfl, fun _ => rfl⟩, fun f g d e _ _ => by show _ = _ + (0 : Int); rw [Int.add_zero]; rfl⟩
  | r + 1, ns, nj, W, Pa, h1, h2, h3, h4, h5 => by
    have hk2 : (n - ns) + (W.length - nj) = r * (t - 1) + 1 + (t - 1) := by
      rw [h5, Nat.add_mul]
      omega
    obtain ⟨⟨i1, i2, i3, i4, i5, i6⟩, i7, i8⟩ := jIn_cl (n := n) (W := W) t ns nj 0 Pa h1 h2 h3 h4 (by omega)
    have hl : (W ++ [(jIn n W t ns nj 0 Pa).2.2.1]).length = W.length + 1 := by simp
    have ih := jOut_cl ht r (jIn n W t ns nj 0 Pa).1 (jIn n W t ns nj 0 Pa).2.1 (W ++ [(jIn n W t ns nj 0 Pa).2.2.1]) ((jIn n W t ns nj 0 Pa).2.2.2 ++ [-1]) i2 (by omega) (by omega) (by simp [i5]) (by rw [hl]; omega)
    have hlen := jOut_len (n := n) (t := t) r (jIn n W t ns nj 0 Pa).1 (jIn n W t ns nj 0 Pa).2.1 (W ++ [(jIn n W t ns nj 0 Pa).2.2.1]) ((jIn n W t ns nj 0 Pa).2.2.2 ++ [-1])
    rw [jOut]
    obtain ⟨X, hX⟩ : ∃ X, X = jOut n t r (jIn n W t ns nj 0 Pa).1 (jIn n W t ns nj 0 Pa).2.1 (W ++ [(jIn n W t ns nj 0 Pa).2.2.1]) ((jIn n W t ns nj 0 Pa).2.2.2 ++ [-1]) := ⟨_, rfl⟩
    rw [← hX] at ih hlen ⊢
    rw [hl] at ih hlen
    obtain ⟨j1, j2⟩ := ih
    have hnl : ∀ i : Nat, i < W.length → ¬ lft n W.length (jIn n W t ns nj 0 Pa).1 (jIn n W t ns nj 0 Pa).2.1 i → ¬ lft n (W.length + 1) (jIn n W t ns nj 0 Pa).1 (jIn n W t ns nj 0 Pa).2.1 i := fun i g1 g2 g3 => g2 (by unfold lft at g3 ⊢; omega)
    refine ⟨fun i hi => ⟨?_, fun hn => ?_⟩, fun f g d e hf hg => ?_⟩
    · rw [(j1 i (by omega)).1, yat_ap1 hi]
    · have g1 : ¬ lft n W.length (jIn n W t ns nj 0 Pa).1 (jIn n W t ns nj 0 Pa).2.1 i := fun g => hn (by unfold lft at g ⊢; omega)
      rw [(j1 i (by omega)).2 (hnl i hi g1), yat_ap1 (by omega), i7 i hi, if_neg (fun g => hn g.1)]
    · have k1 := i8 f (d W.length) (e W.length) (fun i g1 g2 => by
        have g3 : i < W.length := by unfold lft at g1; omega
        have g4 : yat X.2.2.2 i = W.length := by
          rw [(j1 i (by omega)).2 (hnl i g3 g2), yat_ap1 (by omega), i7 i g3, if_pos ⟨g1, g2⟩]
        have g5 := hf i W.length (by omega) g4
        rw [(j1 i (by omega)).1, yat_ap1 g3] at g5
        exact g5)
      have k2 := j2 f g d e hf hg
      have k3 := hg W.length (by omega) (by omega)
      rw [(j1 W.length (by omega)).1, yat_ap2] at k3
      have k4 : lfS f n (W.length + 1) (jIn n W t ns nj 0 Pa).1 (jIn n W t ns nj 0 Pa).2.1 = lfS f n W.length (jIn n W t ns nj 0 Pa).1 (jIn n W t ns nj 0 Pa).2.1 + f W.length := by
        unfold lfS
        rw [show W.length + 1 - (jIn n W t ns nj 0 Pa).2.1 = (W.length - (jIn n W t ns nj 0 Pa).2.1) + 1 by omega, sF_end, show (jIn n W t ns nj 0 Pa).2.1 + (W.length - (jIn n W t ns nj 0 Pa).2.1) = W.length by omega]
        omega
      rw [sF]
      rw [Int.sub_zero] at k1
      omega
end
