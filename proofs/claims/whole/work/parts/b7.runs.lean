/-! the pure part: moves and runs -/
theorem plOf_at {v : Int} : ∀ {F : List Int} {k : Nat}, v ∈ F → yat F (plOf v F k - k) = v
  | [], k, h => by cases h
  | x :: t, k, h => by
    unfold plOf
    by_cases hx : x = v
    · rw [if_pos hx, Int.sub_self]
      show yat (x :: t) ((0 : Nat) : Int) = v
      rw [yat_cons0, hx]
    · rw [if_neg hx]
      have h2 : v ∈ t := by
        rcases List.mem_cons.mp h with h3 | h3
        · exact absurd h3.symm hx
        · exact h3
      have ih := plOf_at (F := t) (k := k + 1) h2
      have hr := plOf_rng (k := k + 1) h2
      obtain ⟨m, hm⟩ := Int.eq_ofNat_of_zero_le (show 0 ≤ plOf v t (k + 1) - ((k + 1 : Nat) : Int) by omega)
      rw [hm] at ih
      rw [show plOf v t (k + 1) - (k : Int) = ((m + 1 : Nat) : Int) by omega, yat_cons1]
      exact ih
theorem um_tm : ∀ (T F : List Int), frO F → (∀ x ∈ T, 0 ≤ x ∧ x < 26) → umF (tmF T F) F = T
  | [], F, _, _ => rfl
  | x :: t, F, hF, hT => by
    have hx := hT x (.head _)
    have hm := hF.2.2 x hx.1 hx.2
    have hr := plOf_rng (k := 0) hm
    have h1 := plOf_at (k := 0) hm
    rw [show plOf x F 0 - ((0 : Nat) : Int) = plOf x F 0 by omega] at h1
    unfold tmF umF
    rw [h1, um_tm t _ (btF_O hF (by have := hF.1; omega)) (fun y hy => hT y (.tail _ hy))]
theorem moves_back {T : List Int} (hT : ∀ x ∈ T, 0 ≤ x ∧ x < 26) : T = umF (tmF T (ciL 26)) (ciL 26) := (um_tm T _ ciL_O hT).symm
theorem tm_rng {T : List Int} (hT : ∀ x ∈ T, 0 ≤ x ∧ x < 26) : rng (tmF T (ciL 26)) := fun x hx => by
  have := tmF_rng T _ ciL_O hT x hx
  omega
theorem um_rng {T : List Int} (hT : ∀ x ∈ T, 0 ≤ x ∧ x < 26) : rng (umF T (ciL 26)) := fun x hx => by
  have := umF_rng T _ ciL_O hT x hx
  omega
/-- the run that is open -/
def opR (T : List Int) (k : Nat) (r : Int) : List Int := if 0 < r then [yat T ((k : Int) - 1), r - 1] else []
def opI (T : List Int) (k : Nat) (r : Int) (R : List Int) : Prop := (r = 0 ∧ (k = 0 ∨ k = T.length ∨ yat T k ≠ yat T ((k : Int) - 1) ∨ yat R ((R.length : Int) - 1) = 25)) ∨ ((0 < r ∧ r ≤ 25) ∧ 0 < k ∧ k < T.length ∧ yat T k = yat T ((k : Int) - 1))
theorem yat_two (R : List Int) (a b : Int) : yat (R ++ [a, b]) (((R ++ [a, b]).length : Int) - 1) = b := by
  rw [yat_apr (by simp; omega), show (((R ++ [a, b]).length : Int) - 1 - R.length) = ((1 : Nat) : Int) by simp; omega, yat_n]
  rfl
theorem yput_two (R : List Int) (a b c : Int) : yput (R ++ [a, b]) (((R ++ [a, b]).length : Int) - 1) c = R ++ [a, c] := by
  rw [show (((R ++ [a, b]).length : Int) - 1) = ((R.length + 1 : Nat) : Int) by simp; omega, yput_n, List.set_append, if_neg (by omega), show R.length + 1 - R.length = 1 by omega]
  rfl
theorem ru_tr (T : List Int) : ∀ (j k : Nat) (r : Int) (R : List Int), k + j = T.length → opI T k r R → ruM T j k (R ++ opR T k r) = R ++ trF T j k r
  | 0, k, r, R, hk, hi => by
    have hr : r = 0 := by
      rcases hi with h | h
      · exact h.1
      · omega
    unfold ruM trF opR
    rw [if_neg (by omega)]
  | j + 1, k, r, R, hk, hi => by
    have e1 : ∀ X, ruM T (j + 1) k X = if (0 < k ∧ yat T k = yat T ((k : Int) - 1)) ∧ yat X ((X.length : Int) - 1) < 25 then ruM T j (k + 1) (yput X ((X.length : Int) - 1) (yat X ((X.length : Int) - 1) + 1)) else ruM T j (k + 1) (X ++ [yat T k, 0]) := fun _ => rfl
    have e2 : trF T (j + 1) k r = if k + 1 = T.length ∨ yat T ((k : Int) + 1) ≠ yat T k ∨ r + 1 = 26 then yat T k :: (r + 1 - 1) :: trF T j (k + 1) 0 else trF T j (k + 1) (r + 1) := rfl
    have step : ruM T (j + 1) k (R ++ opR T k r) = ruM T j (k + 1) (R ++ [yat T k, r]) := by
      rw [e1]
      rcases hi with ⟨hr, h⟩ | ⟨⟨h1, h2⟩, h3, h4, h5⟩
      · have e3 : opR T k r = [] := by
          unfold opR
          rw [if_neg (by omega)]
        rw [e3, List.append_nil, hr, if_neg]
        rintro ⟨⟨g1, g2⟩, g3⟩
        rcases h with h | h | h | h
        · omega
        · omega
        · exact h g2
        · omega
      · have e3 : opR T k r = [yat T ((k : Int) - 1), r - 1] := by
          unfold opR
          rw [if_pos h1]
        rw [e3, yat_two, yput_two, if_pos ⟨⟨h3, h5⟩, by omega⟩, h5, show r - 1 + 1 = r by omega]
    rw [step, e2]
    have hr0 : 0 ≤ r ∧ r ≤ 25 := by
      rcases hi with h | h <;> omega
    by_cases hc : k + 1 = T.length ∨ yat T ((k : Int) + 1) ≠ yat T k ∨ r + 1 = 26
    · rw [if_pos hc]
      have ih := ru_tr T j (k + 1) 0 (R ++ [yat T k, r]) (by omega) (.inl ⟨rfl, by
        rcases hc with h | h | h
        · exact .inr (.inl h)
        · refine .inr (.inr (.inl ?_))
          rw [show ((k + 1 : Nat) : Int) - 1 = k by omega]
          exact h
        · refine .inr (.inr (.inr ?_))
          rw [yat_two]
          omega⟩)
      have e3 : opR T (k + 1) 0 = [] := rfl
      rw [e3, List.append_nil] at ih
      rw [ih, List.append_assoc, show r + 1 - 1 = r by omega]
      rfl
    · rw [if_neg hc]
      have ih := ru_tr T j (k + 1) (r + 1) R (by omega) (.inr ⟨by omega, by omega, by omega, by
        rw [show ((k + 1 : Nat) : Int) - 1 = k by omega]
        refine Decidable.byContradiction fun h => hc (.inr (.inl h))⟩)
      have e3 : opR T (k + 1) (r + 1) = [yat T k, r] := by
        unfold opR
        rw [if_pos (by omega), show ((k + 1 : Nat) : Int) - 1 = k by omega, show r + 1 - 1 = r by omega]
      rw [e3] at ih
      exact ih
theorem tr_ru (T : List Int) : trA T = ruA T := by
  have := ru_tr T T.length 0 0 [] (by omega) (.inl ⟨rfl, .inl rfl⟩)
  unfold trA ruA
  exact this.symm
theorem urF_rng {T : List Int} (hT : ∀ x ∈ T, 0 ≤ x ∧ x < 26) : ∀ (j k : Nat), ∀ x ∈ urF T j k, 0 ≤ x ∧ x < 26
  | 0, k, x, hx => by cases hx
  | j + 1, k, x, hx => by
    unfold urF at hx
    rcases List.mem_append.mp hx with h | h
    · rw [(List.mem_replicate.mp h).2]
      exact yat_all (Q := fun x => 0 ≤ x ∧ x < 26) hT (by omega) k
    · exact urF_rng hT j (k + 2) x h
theorem urA_rng {T : List Int} (hT : ∀ x ∈ T, 0 ≤ x ∧ x < 26) : ∀ x ∈ urA T, 0 ≤ x ∧ x < 26 := urF_rng hT _ _
