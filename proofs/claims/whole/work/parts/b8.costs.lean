/-! the pure part: costs, cuts -/
theorem ab_zero {C : List Int} (h : abF C = 0) (hnn : ∀ x ∈ C, 0 ≤ x) (s : Nat) : yat C s = 0 := by
  have h1 := yat_nn hnn s
  by_cases h2 : 0 < yat C s
  · have := abF_one h2
    omega
  · omega
theorem cs_zero {C : List Int} (h : abF C = 0) (hnn : ∀ x ∈ C, 0 ≤ x) (L : List Int) (n : Nat) : csF C L n 0 0 = 0 := by
  rw [csF_sF, sF_congr (g := fun _ => 0) n 0 (fun i _ _ => by rw [ab_zero h hnn i, Int.zero_mul]), sF_0]
  rfl
theorem jw_zero {C : List Int} (h : abF C = 0) : jwF C = 0 := by
  have h1 := sortP_ab C
  have h2 : sortP C = [] := List.length_eq_zero_iff.mp (by omega)
  have h3 : jlO 0 C = [] := by rw [jlO_0, h2]
  unfold jwF jlQ
  rw [h3]
  rfl
theorem lo_jw {ws : List Int} (hnn : ∀ x ∈ ws, 0 ≤ x) : loM ws = jwF ws := by
  unfold loM
  by_cases h : abF ws = 0
  · rw [if_pos h, jw_zero h]
  · have h1 : 1 ≤ abF ws := by have := (abF_rng ws).1; omega
    have h2 := joF_hlL (tb := 0) (.inl rfl) hnn h1
    have h3 : joF 2 ws = hlL 0 ws ws.length := h2
    rw [if_neg h, h3, jwF_cs hnn h1]
theorem lb_lo {C : List Int} (hC : C.length = 26) (hnn : ∀ x ∈ C, 0 ≤ x) : csF C (hlL 0 C 26) 26 0 0 = loM C := by
  by_cases h : abF C = 0
  · rw [cs_zero h hnn]
    unfold loM
    rw [if_pos h]
  · have h1 : 1 ≤ abF C := by have := (abF_rng C).1; omega
    have h2 := jwF_cs hnn h1
    rw [hC] at h2
    rw [h2, lo_jw hnn]
theorem sv_pb {T : List Int} (hT : T.length ≤ 120) (hTr : ∀ x ∈ T, 0 ≤ x ∧ x < 26) {p : Nat} (hp : p ≤ T.length) : pbF T 0 T.length - cbF T p = svM T p := by
  have h1 := lo_jw (cpP_I T (f := 0) (b := T.length) hT).2.1
  have h2 := lo_jw (cpP_I T (f := 0) (b := p) (by omega)).2.1
  have h3 := lo_jw (cpP_I T (f := p) (b := T.length) hT).2.1
  unfold cbF pbF svM
  omega
theorem bc_bc {T : List Int} (hT : T.length ≤ 120) (hTr : ∀ x ∈ T, 0 ≤ x ∧ x < 26) : ∀ (j p b : Nat), p + j = T.length + 1 → b ≤ T.length → bcF T j p b (cbF T b) = (bcM T j p b : Nat)
  | 0, p, b, _, _ => rfl
  | j + 1, p, b, hp, hb => by
    have h1 := sv_pb hT hTr hb
    have h2 := sv_pb hT hTr (show p ≤ T.length by omega)
    unfold bcF bcM
    by_cases h : cbF T p < cbF T b
    · rw [if_pos h, if_pos (by omega)]
      exact bc_bc hT hTr j (p + 1) p (by omega) (by omega)
    · rw [if_neg h, if_neg (by omega)]
      exact bc_bc hT hTr j (p + 1) b (by omega) hb
theorem best_ok {T : List Int} (hT : T.length ≤ 120) (hTr : ∀ x ∈ T, 0 ≤ x ∧ x < 26) : bcF T T.length 1 0 (cbF T 0) = (bcM T T.length 1 0 : Nat) := bc_bc hT hTr T.length 1 0 (by omega) (Nat.zero_le _)
theorem cb_ok {T : List Int} (hT : T.length ≤ 120) (hTr : ∀ x ∈ T, 0 ≤ x ∧ x < 26) : cbR T := fun p hp => by
  have k1 := cpP_ok (f := 0) hT hTr hp
  have k2 := cpP_ok (f := p) hT hTr (Nat.le_refl T.length)
  have h2 := lo_jw (cpP_I T (f := 0) (b := p) (by omega)).2.1
  have h3 := lo_jw (cpP_I T (f := p) (b := T.length) hT).2.1
  have g2 := loM_rng (cpP_I T (f := 0) (b := p) (by omega)).2.1
  have g3 := loM_rng (cpP_I T (f := p) (b := T.length) hT).2.1
  rw [k1.1] at g2
  rw [k2.1] at g3
  unfold cbF pbF
  omega
/-- costs are small -/
theorem cs_rng {C L : List Int} {n : Nat} {M : Int} (hn : n = C.length) (hnn : ∀ x ∈ C, 0 ≤ x) (hM : 0 ≤ M) (h : ∀ s : Nat, s < n → 0 < yat C s → 0 ≤ yat L s ∧ yat L s ≤ M) : 0 ≤ csF C L n 0 0 ∧ csF C L n 0 0 ≤ M * C.sum := by
  have key : ∀ i : Nat, i < n → 0 ≤ yat C i * yat L i ∧ yat C i * yat L i ≤ M * yat C i := fun i hi => by
    have h1 := yat_nn hnn i
    by_cases h2 : 0 < yat C i
    · have h3 := h i hi h2
      refine ⟨Int.mul_nonneg h1 h3.1, ?_⟩
      rw [Int.mul_comm]
      exact Int.mul_le_mul_of_nonneg_right h3.2 h1
    · have : yat C i = 0 := by omega
      rw [this, Int.zero_mul, Int.mul_zero]
      omega
  have h1 := sF_mono (f := fun _ => 0) (g := fun (s : Nat) => yat C s * yat L s) n 0 (fun i _ hi => (key i (by omega)).1)
  have h2 := sF_mono (f := fun (s : Nat) => yat C s * yat L s) (g := fun (s : Nat) => M * yat C s) n 0 (fun i _ hi => (key i (by omega)).2)
  have h3 : ∀ (k a : Nat), sF (fun (s : Nat) => M * yat C s) a k = M * sF (fun (s : Nat) => yat C s) a k := by
    intro k
    induction k with
    | zero =>
      intro a
      show (0 : Int) = M * 0
      rw [Int.mul_zero]
    | succ k ih =>
      intro a
      rw [sF, sF, ih, Int.mul_add]
  have h4 := drop_sF C n 0 (by omega)
  rw [List.drop_zero] at h4
  rw [sF_0] at h1
  rw [h3, ← h4] at h2
  rw [csF_sF]
  omega
