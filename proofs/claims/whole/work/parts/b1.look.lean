/-! the pure part: bits looked up -/
theorem num_eq : ∀ (k : Nat) (x y : Int), 0 ≤ x → x < 2 ^ k → 0 ≤ y → y < 2 ^ k → (x = y ↔ ∀ i : Nat, i < k → x / 2 ^ (k - 1 - i) % 2 = y / 2 ^ (k - 1 - i) % 2)
  | 0, x, y, h0, h1, h2, h3 => by
    rw [Int.pow_zero] at h1 h3
    constructor
    · intro _ i hi
      omega
    · intro _
      omega
  | k + 1, x, y, h0, h1, h2, h3 => by
    rw [Int.pow_succ] at h1 h3
    have ih := num_eq k (x / 2) (y / 2) (by omega) (by omega) (by omega) (by omega)
    have hs : ∀ (z : Int) (i : Nat), i < k → z / 2 ^ (k + 1 - 1 - i) % 2 = z / 2 / 2 ^ (k - 1 - i) % 2 := fun z i hi => by
      rw [show k + 1 - 1 - i = k - 1 - i + 1 by omega, Int.pow_succ, Int.mul_comm, ← Int.ediv_ediv_of_nonneg (by omega)]
    constructor
    · intro h i hi
      rw [h]
    · intro h
      have h4 := h k (by omega)
      rw [show k + 1 - 1 - k = 0 by omega, Int.pow_zero, Int.ediv_one, Int.ediv_one] at h4
      have h5 := ih.mpr fun i hi => by
        rw [← hs x i hi, ← hs y i hi]
        exact h i (by omega)
      omega
theorem div_pow2 (x : Int) (a b : Nat) : x / 2 ^ a / 2 ^ b = x / 2 ^ (a + b) := by
  rw [Int.pow_add, Int.ediv_ediv_of_nonneg (Int.le_of_lt (Int.pow_pos (by omega)))]
theorem mtF_iff {L W : List Int} {s w t : Int} : ∀ (j k : Nat), mtF L W s w t j k = true ↔ ∀ i : Nat, k ≤ i → i < k + j → dgF 2 L W s i = t / 2 ^ (w - 1 - (i : Int)).toNat % 2
  | 0, k => by
    unfold mtF
    simp only [true_iff]
    intro i h1 h2
    omega
  | j + 1, k => by
    unfold mtF
    by_cases h : dgF 2 L W s k = t / 2 ^ (w - 1 - (k : Int)).toNat % 2
    · rw [if_pos h, mtF_iff j (k + 1)]
      constructor
      · intro h2 i h3 h4
        by_cases hik : i = k
        · rw [hik]; exact h
        · exact h2 i (by omega) (by omega)
      · intro h2 i h3 h4
        exact h2 i (by omega) (by omega)
    · rw [if_neg h]
      simp only [Bool.false_eq_true, false_iff]
      intro h2
      exact h (h2 k (Nat.le_refl _) (by omega))
theorem div_lt2 {x : Int} {a b : Nat} (h0 : 0 ≤ x) (h : x < 2 ^ (a + b)) : 0 ≤ x / 2 ^ b ∧ x / 2 ^ b < 2 ^ a := by
  rw [Int.pow_add] at h
  have h2 : (0 : Int) < 2 ^ b := Int.pow_pos (by omega)
  exact ⟨Int.ediv_nonneg h0 (Int.le_of_lt h2), Int.ediv_lt_of_lt_mul h2 h⟩
theorem mt_short {L W : List Int} (hw : wok L W) {s : Nat} (hs : s < L.length) (h0 : 0 ≤ yat L s) {w : Nat} {t : Int} (ht : 0 ≤ t ∧ t < 2 ^ w) (h1 : yat L s ≤ w) : mtF L W s w t (mtN L s w) 0 = true ↔ t / 2 ^ ((w : Int) - yat L s).toNat = yat W s := by
  have hW := hw s hs h0
  have hd := div_lt2 (a := (yat L s).toNat) (b := ((w : Int) - yat L s).toNat) ht.1 (by rw [show (yat L s).toNat + ((w : Int) - yat L s).toNat = w by omega]; exact ht.2)
  have hn : mtN L s w = (yat L s).toNat := by
    unfold mtN
    split <;> omega
  rw [mtF_iff, hn, num_eq _ _ _ hd.1 hd.2 hW.1 hW.2]
  constructor
  · intro h i hi
    have := h i (Nat.zero_le _) (by omega)
    unfold dgF at this
    rw [show (yat L s - 1 - (i : Int)).toNat = (yat L s).toNat - 1 - i by omega] at this
    rw [this, div_pow2, show ((w : Int) - yat L s).toNat + ((yat L s).toNat - 1 - i) = ((w : Int) - 1 - (i : Int)).toNat by omega]
  · intro h i _ hi
    have := h i (by omega)
    unfold dgF
    rw [show (yat L s - 1 - (i : Int)).toNat = (yat L s).toNat - 1 - i by omega, ← this, div_pow2, show ((w : Int) - yat L s).toNat + ((yat L s).toNat - 1 - i) = ((w : Int) - 1 - (i : Int)).toNat by omega]
theorem mt_long {L W : List Int} (hw : wok L W) {s : Nat} (hs : s < L.length) {w : Nat} {t : Int} (ht : 0 ≤ t ∧ t < 2 ^ w) (h1 : (w : Int) < yat L s) : mtF L W s w t (mtN L s w) 0 = true ↔ yat W s / 2 ^ (yat L s - w).toNat = t := by
  have hW := hw s hs (by omega)
  have hd := div_lt2 (a := w) (b := (yat L s - w).toNat) hW.1 (by rw [show w + (yat L s - w).toNat = (yat L s).toNat by omega]; exact hW.2)
  have hn : mtN L s w = w := by
    unfold mtN
    rw [if_neg (by omega)]
    omega
  rw [mtF_iff, hn, num_eq _ _ _ hd.1 hd.2 ht.1 ht.2]
  constructor
  · intro h i hi
    have := h i (Nat.zero_le _) (by omega)
    unfold dgF at this
    rw [div_pow2, show (yat L s - w).toNat + (w - 1 - i) = (yat L s - 1 - (i : Int)).toNat by omega, this, show ((w : Int) - 1 - (i : Int)).toNat = w - 1 - i by omega]
  · intro h i _ hi
    have := h i (by omega)
    unfold dgF
    rw [div_pow2, show (yat L s - w).toNat + (w - 1 - i) = (yat L s - 1 - (i : Int)).toNat by omega] at this
    rw [this, show ((w : Int) - 1 - (i : Int)).toNat = w - 1 - i by omega]
theorem lm_sb {L W : List Int} (hw : wok L W) {w : Nat} {t : Int} (ht : 0 ≤ t ∧ t < 2 ^ w) : ∀ (j s : Nat) (g : Int), s + j = L.length → lmF L W w t j s g = if 0 ≤ sbF L W t w j s then sbF L W t w j s else if swF L W t w j s = 1 then -1 else g
  | 0, s, g, hs => rfl
  | j + 1, s, g, hs => by
    have ih := fun g => lm_sb hw ht j (s + 1) g (by omega)
    have e1 : lmF L W w t (j + 1) s g = if 0 ≤ yat L s ∧ mtF L W s w t (mtN L s w) 0 = true then (if yat L s ≤ w then (s : Int) else lmF L W w t j (s + 1) (-1)) else lmF L W w t j (s + 1) g := rfl
    have e2 : sbF L W t w (j + 1) s = if 0 ≤ yat L s ∧ yat L s ≤ w ∧ t / 2 ^ ((w : Int) - yat L s).toNat = yat W s then (s : Int) else sbF L W t w j (s + 1) := rfl
    have e3 : swF L W t w (j + 1) s = if (w : Int) ≤ yat L s ∧ yat W s / 2 ^ (yat L s - w).toNat = t then 1 else swF L W t w j (s + 1) := rfl
    by_cases h0 : 0 ≤ yat L s
    · by_cases h1 : yat L s ≤ w
      · have hm := mt_short hw (show s < L.length by omega) h0 ht h1
        by_cases h2 : t / 2 ^ ((w : Int) - yat L s).toNat = yat W s
        · rw [if_pos ⟨h0, hm.mpr h2⟩, if_pos h1] at e1
          rw [if_pos ⟨h0, h1, h2⟩] at e2
          rw [e1, e2, if_pos (by omega)]
        · have h3 : ¬ ((w : Int) ≤ yat L s ∧ yat W s / 2 ^ (yat L s - w).toNat = t) := by
            rintro ⟨h4, h5⟩
            have h6 : yat L s = w := by omega
            rw [h6, Int.sub_self] at h5 h2
            rw [show ((0 : Int)).toNat = 0 from rfl, Int.pow_zero, Int.ediv_one] at h5 h2
            exact h2 h5.symm
          rw [if_neg (fun h => h2 (hm.mp h.2))] at e1
          rw [if_neg (fun h => h2 h.2.2)] at e2
          rw [if_neg h3] at e3
          rw [e1, e2, e3]
          exact ih g
      · have hm := mt_long hw (show s < L.length by omega) ht (by omega)
        have h3 : ¬ (0 ≤ yat L s ∧ yat L s ≤ (w : Int) ∧ t / 2 ^ ((w : Int) - yat L s).toNat = yat W s) := fun h => h1 h.2.1
        rw [if_neg h3] at e2
        by_cases h2 : yat W s / 2 ^ (yat L s - w).toNat = t
        · rw [if_pos ⟨h0, hm.mpr h2⟩, if_neg h1] at e1
          rw [if_pos ⟨by omega, h2⟩] at e3
          rw [e1, e2, e3, ih (-1)]
          simp only [ite_self, if_true]
        · rw [if_neg (fun h => h2 (hm.mp h.2))] at e1
          rw [if_neg (fun h => h2 h.2)] at e3
          rw [e1, e2, e3]
          exact ih g
    · rw [if_neg (fun h => h0 h.1)] at e1
      rw [if_neg (fun h => h0 h.1)] at e2
      rw [if_neg (fun h => by have := h.1; omega)] at e3
      rw [e1, e2, e3]
      exact ih g
theorem lk_lm {q : cdT} (hw : wok q.2.1 q.2.2) {w t : Int} (h1 : 1 ≤ w ∧ w ≤ 8) (ht : 0 ≤ t ∧ t < 2 ^ w.toNat) (hL : q.2.1.length = 26) : lkF q w t = lmF q.2.1 q.2.2 w t 26 0 (-2) := by
  have := lm_sb hw (w := w.toNat) ht 26 0 (-2) (by omega)
  rw [Int.toNat_of_nonneg (by omega)] at this
  rw [this]
  unfold lkF
  rw [hL]
