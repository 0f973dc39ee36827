/-! the pure part: bits as a number, and bit by bit -/
theorem nfF_end (xs : List Int) (p : Int) : ∀ (j i : Nat) (v : Int), nfF xs p (j + 1) i v = 2 * nfF xs p j i v + yat xs (p + (i + j : Nat))
  | 0, i, v => by
    rw [nfF, nfF, nfF, Nat.add_zero]
  | j + 1, i, v => by
    rw [nfF, nfF_end xs p j (i + 1), nfF, show i + 1 + j = i + (j + 1) by omega]
/-- a number of bits -/
abbrev nv (xs : List Int) (p : Int) (k : Nat) : Int := nfF xs p k 0 0
theorem nv_s (xs : List Int) (p : Int) (k : Nat) : nv xs p (k + 1) = 2 * nv xs p k + yat xs (p + k) := by
  have := nfF_end xs p k 0 0
  rwa [Nat.zero_add] at this
theorem nv_rng {xs : List Int} (hx : bitR xs) (p : Int) (k : Nat) : 0 ≤ nv xs p k ∧ nv xs p k < 2 ^ k := by
  have := nfF_rng hx p k 0 0 (Int.le_refl _)
  rw [Int.zero_add, Int.one_mul] at this
  exact this
theorem nv_half {xs : List Int} (hx : bitR xs) (p : Int) (k : Nat) : nv xs p (k + 1) / 2 = nv xs p k ∧ nv xs p (k + 1) % 2 = yat xs (p + k) := by
  have := yat_bit hx (p + k)
  rw [nv_s]
  omega
theorem nv_drop {xs : List Int} (hx : bitR xs) (p : Int) (k : Nat) : ∀ d : Nat, nv xs p (k + d) / 2 ^ d = nv xs p k
  | 0 => by rw [Nat.add_zero, Int.pow_zero, Int.ediv_one]
  | d + 1 => by
    rw [Int.pow_succ, Int.mul_comm, ← Int.ediv_ediv_of_nonneg (by omega), show k + (d + 1) = k + d + 1 by omega, (nv_half hx p (k + d)).1]
    exact nv_drop hx p k d
/-- digits of a number, and its bits -/
theorem nv_eq {xs : List Int} (hx : bitR xs) (p : Int) : ∀ (k : Nat) (w : Int), 0 ≤ w → w < 2 ^ k → (nv xs p k = w ↔ ∀ i : Nat, i < k → yat xs (p + i) = w / 2 ^ (k - 1 - i) % 2)
  | 0, w, h0, h1 => by
    rw [Int.pow_zero] at h1
    constructor
    · intro _ i hi
      omega
    · intro _
      show (0 : Int) = w
      omega
  | k + 1, w, h0, h1 => by
    have ih := nv_eq hx p k (w / 2) (by omega) (by rw [Int.pow_succ] at h1; omega)
    have hh := nv_half hx p k
    have hb := yat_bit hx (p + k)
    constructor
    · intro h i hi
      rw [h] at hh
      by_cases hik : i = k
      · subst hik
        rw [show i + 1 - 1 - i = 0 by omega, Int.pow_zero, Int.ediv_one]
        omega
      · rw [ih.mp hh.1.symm i (by omega), show k + 1 - 1 - i = k - 1 - i + 1 by omega, Int.pow_succ, Int.mul_comm, ← Int.ediv_ediv_of_nonneg (by omega)]
    · intro h
      have h2 := h k (by omega)
      rw [show k + 1 - 1 - k = 0 by omega, Int.pow_zero, Int.ediv_one] at h2
      have h3 := ih.mpr fun i hi => by
        rw [h i (by omega), show k + 1 - 1 - i = k - 1 - i + 1 by omega, Int.pow_succ, Int.mul_comm, ← Int.ediv_ediv_of_nonneg (by omega)]
      omega
theorem wmF_iff {L W S : List Int} {at_ : Int} {s : Nat} : ∀ (j k : Nat), wmF L W S at_ s j k = true ↔ ∀ i : Nat, k ≤ i → i < k + j → yat S (at_ + i) = dgF 2 L W s i
  | 0, k => by
    unfold wmF
    simp only [true_iff]
    intro i h1 h2
    omega
  | j + 1, k => by
    unfold wmF
    by_cases h : yat S (at_ + k) = dgF 2 L W s k
    · rw [if_pos h, wmF_iff j (k + 1)]
      constructor
      · intro h2 i h3 h4
        by_cases hik : i = k
        · rw [hik]; exact h
        · exact h2 i (by omega) (by omega)
      · intro h2 i h3 h4
        exact h2 i (by omega) (by omega)
    · rw [if_neg h]
      simp only [Bool.false_eq_true, false_iff]
      intro h2
      exact h (h2 k (Nat.le_refl _) (by omega))
/-- words are as long as they say -/
def wok (L W : List Int) : Prop := ∀ s : Nat, s < L.length → 0 ≤ yat L s → 0 ≤ yat W s ∧ yat W s < 2 ^ (yat L s).toNat
theorem ap_wok {L W : List Int} (ha : apart 2 L W) (hL : ∀ x ∈ L, x ≤ 25) : wok L W := fun _ hs h => ap_lt (by omega) ha hL hs h
theorem wm_nv {L W S : List Int} (hS : bitR S) {at_ : Int} {s : Nat} (hw : wok L W) (hs : s < L.length) (h : 0 ≤ yat L s) : wmF L W S at_ s (yat L s).toNat 0 = true ↔ nv S at_ (yat L s).toNat = yat W s := by
  have := hw s hs h
  rw [wmF_iff, nv_eq hS at_ _ _ this.1 this.2]
  constructor
  · intro h2 i hi
    rw [h2 i (Nat.zero_le _) (by omega)]
    unfold dgF
    rw [show (yat L s - 1 - (i : Int)).toNat = (yat L s).toNat - 1 - i by omega]
  · intro h2 i _ hi
    rw [h2 i (by omega)]
    unfold dgF
    rw [show (yat L s - 1 - (i : Int)).toNat = (yat L s).toNat - 1 - i by omega]
/-- the class's search by number is the reference's bit by bit -/
theorem sb_wa {L W S : List Int} (hS : bitR S) (hw : wok L W) (hL : ∀ x ∈ L, x ≤ 25) {p : Int} {w : Nat} (hp : 0 ≤ p ∧ p + w ≤ S.length) (hw2 : p + w = S.length ∨ w = 25) : ∀ (j s : Nat), s + j = L.length → sbF L W (nv S p w) w j s = waF L W S p j s
  | 0, s, hs => rfl
  | j + 1, s, hs => by
    unfold sbF waF
    have ih := sb_wa hS hw hL hp hw2 j (s + 1) (by omega)
    by_cases h0 : 0 ≤ yat L s
    · have h25 := hL _ (yat_mem' (s := s) (by omega))
      by_cases h1 : yat L s ≤ w
      · have hd := nv_drop hS p (yat L s).toNat (w - (yat L s).toNat)
        rw [show (yat L s).toNat + (w - (yat L s).toNat) = w by omega, show w - (yat L s).toNat = ((w : Int) - yat L s).toNat by omega] at hd
        rw [hd]
        have hm := wm_nv hS (at_ := p) hw (by omega) h0
        by_cases h2 : nv S p (yat L s).toNat = yat W s
        · rw [if_pos ⟨h0, h1, h2⟩, if_pos ⟨⟨h0, by omega⟩, hm.mpr h2⟩]
        · rw [if_neg (fun h => h2 h.2.2), if_neg (fun h => h2 (hm.mp h.2))]
          exact ih
      · rw [if_neg (fun h => h1 h.2.1), if_neg (fun h => by have := h.1.2; omega)]
        exact ih
    · rw [if_neg (fun h => h0 h.1), if_neg (fun h => h0 h.1.1)]
      exact ih
theorem fpF_at {S : List Int} {t i : Int} (ht : 0 ≤ t ∧ t < S.length) : yat (fpF S t) i = if i = t then 1 - yat S t else yat S i := by
  unfold fpF
  split
  · rename_i h
    rw [h, yat_pu ht]
  · rename_i h
    exact yat_ne h
/-- a bit of a number -/
theorem nv_tb {S : List Int} (hS : bitR S) (p : Int) : ∀ (w i : Nat), Nat.testBit (nv S p w).toNat i = decide (i < w ∧ yat S (p + (w - 1 - i : Nat)) = 1)
  | 0, i => by
    show Nat.testBit 0 i = _
    rw [Nat.zero_testBit]
    symm
    rw [decide_eq_false_iff_not]
    omega
  | w + 1, 0 => by
    have h := nv_half hS p w
    have hr := nv_rng hS p (w + 1)
    rw [Nat.testBit_zero]
    refine decide_eq_decide.mpr ?_
    rw [show w + 1 - 1 - 0 = w by omega, ← h.2]
    omega
  | w + 1, i + 1 => by
    have h := nv_half hS p w
    have hr := nv_rng hS p (w + 1)
    rw [Nat.testBit_succ, show (nv S p (w + 1)).toNat / 2 = (nv S p w).toNat by omega, nv_tb hS p w i]
    refine decide_eq_decide.mpr ?_
    rw [show w + 1 - 1 - (i + 1) = w - 1 - i by omega]
    omega
theorem nv_flip {S : List Int} (hS : bitR S) {p t : Int} {w : Nat} (hp : 0 ≤ p) (ht : p ≤ t ∧ t < p + w) (hl : p + w ≤ S.length) : (((nv S p w).toNat ^^^ (2 ^ (p + w - 1 - t).toNat : Int).toNat : Nat) : Int) = nv (fpF S t) p w := by
  have h2 := nv_rng (fpF_bit hS t) p w
  have h3 : (2 ^ (p + w - 1 - t).toNat : Int).toNat = 2 ^ (p + w - 1 - t).toNat := by
    rw [show (2 : Int) = ((2 : Nat) : Int) from rfl, ← Int.natCast_pow, Int.toNat_natCast]
  rw [h3]
  have : (nv S p w).toNat ^^^ 2 ^ (p + w - 1 - t).toNat = (nv (fpF S t) p w).toNat := by
    refine Nat.eq_of_testBit_eq fun i => ?_
    rw [Nat.testBit_xor, Nat.testBit_two_pow, nv_tb hS, nv_tb (fpF_bit hS t), fpF_at (by omega)]
    have hb := yat_bit hS t
    by_cases hi : (p + w - 1 - t).toNat = i
    · have e : p + ((w - 1 - i : Nat) : Int) = t := by omega
      rw [e, if_pos rfl]
      have hw : i < w := by omega
      rcases hb with hb | hb <;> rw [hb] <;> simp [hi, hw]
    · by_cases hw : i < w
      · rw [if_neg (show ¬ p + ((w - 1 - i : Nat) : Int) = t by omega)]
        simp [hi]
      · simp [hi, hw]
  omega
theorem nv_flip_out {S : List Int} {p t : Int} : ∀ (w : Nat), (0 ≤ t ∧ t < S.length) → ¬ (p ≤ t ∧ t < p + w) → nv (fpF S t) p w = nv S p w
  | 0, _, _ => rfl
  | w + 1, ht, h => by
    rw [nv_s, nv_s, nv_flip_out w ht (by omega), fpF_at ht, if_neg (by omega)]
/-- the sign ahead -/
theorem sa_wa {L W S : List Int} (hS : bitR S) (hw : wok L W) (hL : ∀ x ∈ L, x ≤ 25) {p : Int} (hp : 0 ≤ p ∧ p ≤ S.length) : saF L W S p (-1) = waF L W S p L.length 0 := by
  unfold saF
  by_cases h : (S.length : Int) - p < 25
  · rw [if_pos h]
    simp only
    rw [if_neg (by omega)]
    have := sb_wa hS hw hL (p := p) (w := ((S.length : Int) - p).toNat) (by omega) (by omega) L.length 0 (by omega)
    rw [← this, Int.toNat_of_nonneg (by omega)]
  · rw [if_neg h]
    simp only
    rw [if_neg (by omega)]
    exact sb_wa hS hw hL (p := p) (w := 25) (by omega) (by omega) L.length 0 (by omega)
theorem sa_wat {L W S : List Int} (hS : bitR S) (hw : wok L W) (hL : ∀ x ∈ L, x ≤ 25) {p t : Int} (hp : 0 ≤ p ∧ p ≤ S.length) (ht : 0 ≤ t ∧ t < S.length) : saF L W S p t = waF L W (fpF S t) p L.length 0 := by
  have hk : ∀ w : Nat, p + w ≤ S.length → (if p ≤ t ∧ t < p + w then (((nv S p w).toNat ^^^ (2 ^ (p + w - 1 - t).toNat : Int).toNat : Nat) : Int) else nv S p w) = nv (fpF S t) p w := fun w hw => by
    split
    · rename_i h
      exact nv_flip hS hp.1 h hw
    · rename_i h
      exact (nv_flip_out w ht h).symm
  have hl := fpF_len S t
  unfold saF
  by_cases h : (S.length : Int) - p < 25
  · rw [if_pos h]
    simp only
    have := sb_wa (fpF_bit hS t) hw hL (p := p) (w := ((S.length : Int) - p).toNat) (by omega) (by omega) L.length 0 (by omega)
    have h2 := hk ((S.length : Int) - p).toNat (by omega)
    rw [Int.toNat_of_nonneg (show 0 ≤ (S.length : Int) - p by omega)] at this h2
    rw [← this, ← h2]
  · rw [if_neg h]
    simp only
    have := sb_wa (fpF_bit hS t) hw hL (p := p) (w := 25) (by omega) (by omega) L.length 0 (by omega)
    rw [← this, ← hk 25 (by omega)]
    rfl
/-- texts read -/
theorem gt_rm {L W S : List Int} (hS : bitR S) (hw : wok L W) (hL : ∀ x ∈ L, x ≤ 25) : ∀ (j : Nat) (p : Int), 0 ≤ p ∧ p ≤ S.length → gtF L W S j p = rmF L W S j p
  | 0, _, _ => rfl
  | j + 1, p, hp => by
    rw [gtF, rmF, sa_wa hS hw hL hp]
    split
    · rfl
    · rename_i h
      have := (waF_rng L W S p L.length 0).2.2 (by omega)
      rw [gt_rm hS hw hL j _ (by omega)]
