/-! the pure part: least codes of few counts are short -/
section
variable {N n : Nat} {O W Pa : List Int} {ns nj : Nat} {w : Int} {next : Nat} {q : jmT}
theorem hm_two (hs : sdW N n O W) (hr : hmR N n O W Pa ns nj w next q) (hk : 2 ≤ (n - ns) + (W.length - nj)) : ∃ c d, (c < W.length ∧ d < W.length) ∧ lft n W.length ns nj c ∧ lft n W.length ns nj d ∧ (jIn n W 2 ns nj w Pa).2.2.1 = w + yat W c + yat W d ∧ (jIn n W 2 ns nj w Pa).2.2.2 = (Pa.set c W.length).set d W.length := by
  obtain ⟨c, c1, c2, c3, c4, c5, c6, c7⟩ := hm_part hs hr (by omega)
  obtain ⟨d, d1, d2, d3, d4, d5, d6, d7⟩ := hm_part hs c6 (by omega)
  refine ⟨c, d, ⟨c1, d1⟩, c2, ?_, ?_, ?_⟩
  · unfold lft at d2 ⊢
    by_cases hb : tkB n W ns nj
    · rw [if_pos hb, if_pos hb] at d2
      omega
    · rw [if_neg hb, if_neg hb] at d2
      omega
  · rw [c4 1, d4 0]
    rfl
  · rw [c4 1, d4 0]
    rfl
/-- parents weigh more -/
def gpJ (n : Nat) (W Pa : List Int) : Prop := (∀ i p : Nat, i < W.length → yat Pa i = p → p < W.length ∧ yat W i ≤ yat W p ∧ (n ≤ i → 3 * yat W i ≤ 2 * yat W p)) ∧ ∀ i : Nat, n ≤ i → i < W.length → 1 ≤ yat W i
theorem hm_gp {S : Int} : ∀ (r ns nj next : Nat) (W Pa : List Int) (q : jmT) (m0 : Int), sdW N n O W → hmR N n O W Pa ns nj 0 next q → jmI (2 * N + 2) next (((n - ns) + (W.length - nj) : Nat) : Int) S q → 1 ≤ m0 → (n - ns) + (W.length - nj) = r + 1 → next + r < 2 * N + 2 → (∀ i, lft n W.length ns nj i → m0 ≤ yat W i) → (∀ i : Nat, n ≤ i → i < W.length → yat W i ≤ 2 * m0) → gpJ n W Pa → gpJ n (jOut n 2 r ns nj W Pa).2.2.1 (jOut n 2 r ns nj W Pa).2.2.2
  | 0, ns, nj, next, W, Pa, q, m0, _, _, _, _, _, _, _, _, h3 => h3
  | r + 1, ns, nj, next, W, Pa, q, m0, hs, hr, hj, hm0, hk, hN, h1, h2, h3 => by
    obtain ⟨i1, i2, i3, mc, i4, i5, i6, i7, i8⟩ := hm_in hs (show 0 ≤ m0 by omega) 2 0 ns nj 0 Pa q m0 _ hr hj (by omega) (by omega) (Int.le_refl _) (by simp) (by simp) (fun h => by omega) h1
    obtain ⟨c, d, ⟨c1, d1⟩, c2, d2, e1, e2⟩ := hm_two hs hr (by omega)
    have hc := h1 c c2
    have hd := h1 d d2
    rw [Nat.zero_add] at i5 i6 i7
    have hi7 := i7 (by omega)
    have hjl := jm_next i2 (by omega)
    have hp := hm_push hs i1 i2 (by omega)
    have hw0 : 0 ≤ (jIn n W 2 ns nj 0 Pa).2.2.1 := by omega
    have hl : (W ++ [(jIn n W 2 ns nj 0 Pa).2.2.1]).length = W.length + 1 := by simp
    have hsd := sd_push hs hw0 (fun i g1 g2 => by have := h2 i g1 g2; omega)
    have hnj := i1.1.2.2.1
    have hpl := i1.1.2.2.2
    have hpl0 := hr.1.2.2.2
    have ih := hm_gp r _ _ (next + 1) (W ++ [(jIn n W 2 ns nj 0 Pa).2.2.1]) ((jIn n W 2 ns nj 0 Pa).2.2.2 ++ [-1]) ((jpF next 2 q).1, (jpF next 2 q).2.1, yput (jpF next 2 q).2.2 next 1) mc hsd hp (by
      rw [hl, show (((n - (jIn n W 2 ns nj 0 Pa).1) + (W.length + 1 - (jIn n W 2 ns nj 0 Pa).2.1) : Nat) : Int) = (((n - ns) + (W.length - nj) : Nat) : Int) - (2 : Nat) + 1 by omega]
      exact hjl) (by omega) (by rw [hl]; omega) (by omega) (fun i hi => by
      by_cases g1 : i = W.length
      · rw [g1, yat_ap2]
        exact hi7
      · rw [hl] at hi
        have g2 : lft n W.length (jIn n W 2 ns nj 0 Pa).1 (jIn n W 2 ns nj 0 Pa).2.1 i := by
          unfold lft at hi ⊢
          omega
        rw [yat_ap1 (by have := hs.1; unfold lft at g2; omega)]
        exact i8 i g2) (fun i g1 g2 => by
      by_cases g3 : i = W.length
      · rw [g3, yat_ap2]
        omega
      · rw [yat_ap1 (by omega)]
        have := h2 i g1 (by omega)
        omega) ⟨(fun i p g1 g2 => by
      rw [hl] at g1 ⊢
      by_cases g3 : i = W.length
      · rw [g3, ← hpl, yat_ap2] at g2
        omega
      · rw [yat_ap1 (by omega), e2, yat_setn (by rw [List.length_set]; omega)] at g2
        rw [yat_ap1 (show i < W.length by omega)]
        by_cases g4 : i = d
        · rw [if_pos g4] at g2
          have g5 : p = W.length := by omega
          rw [g5, yat_ap2, e1, g4]
          refine ⟨by omega, by omega, fun g6 => ?_⟩
          have := h2 d g6 d1
          omega
        · rw [if_neg g4, yat_setn (by omega)] at g2
          by_cases g5 : i = c
          · rw [if_pos g5] at g2
            have g6 : p = W.length := by omega
            rw [g6, yat_ap2, e1, g5]
            refine ⟨by omega, by omega, fun g7 => ?_⟩
            have := h2 c g7 c1
            omega
          · rw [if_neg g5] at g2
            have := h3.1 i p (by omega) g2
            rw [yat_ap1 this.1]
            exact ⟨by omega, this.2⟩), fun i g1 g2 => by
      by_cases g3 : i = W.length
      · rw [g3, yat_ap2]
        omega
      · rw [yat_ap1 (by omega)]
        exact h3.2 i g1 (by omega)⟩
    rw [jOut]
    exact ih
end
theorem j0_gp (C : List Int) : gpJ (sortP C).length (pw C (sortP C)) (List.replicate (sortP C).length (-1)) := ⟨fun i p hi hp => by
  rw [pw_len] at hi
  rw [yat_n, getD_get (by simp; exact hi), List.getElem_replicate] at hp
  omega, fun i h1 h2 => by
  rw [pw_len] at h2
  omega⟩
theorem hl_gp {C : List Int} (hnn : ∀ x ∈ C, 0 ≤ x) (h1 : 1 ≤ abF C) : gpJ (jlO 0 C).length (jlQ 0 C).2.2.1 (jlQ 0 C).2.2.2 := by
  obtain ⟨hs, hr⟩ := hm_start (tb := 0) (.inl rfl) hnn
  have hj := j0_I (b := (2 + (0 : Int)).toNat) hnn (.inl rfl)
  obtain ⟨hjr, hjr2⟩ := jr_t (b := (2 + (0 : Int)).toNat) (.inl rfl) h1
  have hn := jlO_n (C := C) (tb := 0)
  have hl := pw_len C (jlO 0 C)
  have hlO := jlO_len (C := C) (tb := 0) (.inl rfl)
  obtain ⟨m, r, r1, r2, r3, r4, r5, r6, r7, r8, r9, r10⟩ := hl_run (tb := 0) (.inl rfl) hnn h1
  rw [show (2 + (0 : Int)).toNat = 2 from rfl] at r2 r8 hj hn hr
  have hr3 : (jlO 0 C).length = r + 1 := by omega
  rw [r8]
  have hab := sortP_len C
  rw [jlO_0] at hr3 hlO
  rw [show abF C + jd0 2 C = (((jlO 0 C).length - 0 + ((pw C (jlO 0 C)).length - (jlO 0 C).length) : Nat) : Int) by rw [hl]; omega] at hj
  refine hm_gp r 0 (jlO 0 C).length (C.length + 1) _ _ _ 1 hs hr hj (Int.le_refl _) (by rw [hl, jlO_0]; omega) (by omega) (fun i hi => ?_) (fun i g1 g2 => by rw [hl] at g2; omega) (by rw [jlO_0]; exact j0_gp C)
  · have hi2 : i < (jlO 0 C).length := by
      unfold lft at hi
      rw [hl] at hi
      omega
    rw [pw_yat C _ hi2]
    have hm := (jlO_mem (C := C) (tb := 0) ((jlO 0 C).getD i 0)).mp (by rw [getD_get hi2]; exact List.getElem_mem _)
    omega
theorem jOut_le {n : Nat} {T : Int} : ∀ (r ns nj : Nat) (W Pa : List Int), jI n W ns nj (r + 1) 0 T → ∀ x ∈ (jOut n 2 r ns nj W Pa).2.2.1, x ≤ T
  | 0, ns, nj, W, Pa, h => fun x hx => (h.2.2.2.2.1 x hx).2
  | r + 1, ns, nj, W, Pa, h => by
    unfold jOut
    have h2 := jIn_I 2 r ns nj 0 Pa h (Int.le_refl _)
    exact jOut_le r _ _ _ _ (jI_push h2.1 h2.2.1)
theorem jlQ_le {C : List Int} (hnn : ∀ x ∈ C, 0 ≤ x) (h1 : 1 ≤ abF C) : ∀ x ∈ (jlQ 0 C).2.2.1, x ≤ C.sum := by
  obtain ⟨m, r, r1, r2, r3, r4, r5, r6, r7, r8, r9, r10⟩ := hl_run (tb := 0) (.inl rfl) hnn h1
  rw [show (2 + (0 : Int)).toNat = 2 from rfl] at r2 r8
  rw [r8]
  have := jlI (tb := 0) hnn
  rw [show (jlO 0 C).length = r + 1 by omega] at this ⊢
  exact jOut_le r 0 (r + 1) _ _ this
/-- few counts: short words -/
theorem hl_few {C : List Int} (hnn : ∀ x ∈ C, 0 ≤ x) (h1 : 1 ≤ abF C) (hT : C.sum ≤ 40) {i : Nat} (hi : i < (jlQ 0 C).2.2.1.length) : 0 ≤ yat (hlD 0 C) i ∧ yat (hlD 0 C) i ≤ 8 := by
  obtain ⟨m, r, r1, r2, r3, r4, r5, r6, r7, r8, r9, r10⟩ := hl_run (tb := 0) (.inl rfl) hnn h1
  have hg := hl_gp hnn h1
  have hTT := jlQ_le hnn h1
  have key : ∀ k i : Nat, i < m → m ≤ i + 1 + k → (jlO 0 C).length ≤ i → 1 ≤ yat (jlQ 0 C).2.2.1 i → (yat (hlD 0 C) i = 0 ∨ (yat (hlD 0 C) i = 1 ∧ yat (jlQ 0 C).2.2.1 i ≤ 26) ∨ (yat (hlD 0 C) i = 2 ∧ yat (jlQ 0 C).2.2.1 i ≤ 17) ∨ (yat (hlD 0 C) i = 3 ∧ yat (jlQ 0 C).2.2.1 i ≤ 11) ∨ (yat (hlD 0 C) i = 4 ∧ yat (jlQ 0 C).2.2.1 i ≤ 7) ∨ (yat (hlD 0 C) i = 5 ∧ yat (jlQ 0 C).2.2.1 i ≤ 4) ∨ (yat (hlD 0 C) i = 6 ∧ yat (jlQ 0 C).2.2.1 i ≤ 2) ∨ (yat (hlD 0 C) i = 7 ∧ yat (jlQ 0 C).2.2.1 i ≤ 1)) := by
    intro k
    induction k with
    | zero =>
      intro i hi hk hn hw
      rcases r10 i hi with h | ⟨p, h⟩
      · exact .inl h.2.2.1
      · omega
    | succ k ih =>
      intro i hi hk hn hw
      rcases r10 i hi with h | ⟨p, h2, h3, h4, h5, h6, h7⟩
      · exact .inl h.2.2.1
      · have h8 := hg.1 i p (by omega) h7
        have h9 := h8.2.2 hn
        have h10 := ih p h3 (by omega) h4 (by omega)
        have h11 := hTT _ (yat_mem (W := (jlQ 0 C).2.2.1) (k := p) (by omega))
        omega
  rcases r10 i (by omega) with h | ⟨p, h2, h3, h4, h5, h6, h7⟩
  · omega
  · have h9 := key m p h3 (by omega) h4 (hg.2 p h4 (by omega))
    omega
theorem hlL_few {C : List Int} (hnn : ∀ x ∈ C, 0 ≤ x) (h1 : 1 ≤ abF C) (hT : C.sum ≤ 40) : ∀ x ∈ hlL 0 C C.length, -1 ≤ x ∧ x ≤ 8 := fun x hx => by
  obtain ⟨s, hs, rfl⟩ := List.getElem_of_mem hx
  rw [hlL_len] at hs
  have e : (hlL 0 C C.length)[s]'(by rw [hlL_len]; exact hs) = yat (hlL 0 C C.length) s := by
    rw [yat_n, getD_get]
  rw [e]
  by_cases h : 0 < yat C s
  · obtain ⟨i, hi, he⟩ := List.getElem_of_mem ((jlO_mem (C := C) (tb := 0) s).mpr (.inr ⟨by omega, by omega, h⟩))
    have hg : (jlO 0 C).getD i 0 = (s : Nat) := by rw [getD_get hi, he]
    have h2 := hlL_leaf (C := C) (tb := 0) hi (by omega)
    rw [hg] at h2
    have := hl_few hnn h1 hT (i := i) (by have := (hl_rounds (tb := 0) (.inl rfl) hnn h1).2.2; omega)
    omega
  · have := hlL_out (C := C) (tb := 0) (.inl rfl) hs h
    omega
