/-! the pure part: words whose shares lie apart -/
/-- the share of a word begins here -/
abbrev vl (b : Int) (L W : List Int) (s : Nat) : Int := yat W s * b ^ (25 - yat L s).toNat
abbrev vw (b : Int) (L : List Int) (s : Nat) : Int := b ^ (25 - yat L s).toNat
def apart (b : Int) (L W : List Int) : Prop := (∀ s : Nat, s < L.length → 0 ≤ yat L s → 0 ≤ yat W s ∧ vl b L W s + vw b L s ≤ b ^ 25) ∧ ∀ s o : Nat, s < L.length → o < L.length → 0 ≤ yat L s → 0 ≤ yat L o → s ≠ o → vl b L W s + vw b L s ≤ vl b L W o ∨ vl b L W o + vw b L o ≤ vl b L W s
section
variable {b : Int} {L W : List Int}
theorem vw_pos (hb : 0 < b) (s : Nat) : 0 < vw b L s := Int.pow_pos hb
theorem cuS_own (hb : 0 ≤ b) {s : Nat} (hs : s < L.length) (h : 0 ≤ yat L s) : cuS b L (yat L s) s + vw b L s = cuS b L (yat L s) (s + 1) := by
  rw [cuS_step hs h, if_pos rfl]
theorem lbW_apart (hb : 0 < b) (hL : ∀ x ∈ L, x ≤ 25) (hW : W.length = L.length) (hk : shF b L ≤ b ^ 25) : apart b L (lbW b L W) := by
  have hws : ∀ s : Nat, s < L.length → 0 ≤ yat L s → vl b L (lbW b L W) s = cuS b L (yat L s) s := fun s hs h => (lbW_ok hL hW hs).1 h
  refine ⟨fun s hs h => ⟨?_, ?_⟩, fun s o hs ho h1 h2 hne => ?_⟩
  · have h3 := hws s hs h
    have h4 : 0 ≤ cuS b L (yat L s) s := cuS_nn (Int.le_of_lt hb)
    refine Decidable.byContradiction fun h5 => ?_
    have h6 : yat (lbW b L W) s * vw b L s < 0 := Int.mul_neg_of_neg_of_pos (by omega) (vw_pos hb s)
    rw [← h3] at h4
    exact absurd h4 (Int.not_le.mpr h6)
  · rw [hws s hs h, cuS_own (Int.le_of_lt hb) hs h]
    exact Int.le_trans (cuS_all (Int.le_of_lt hb)) hk
  · rw [hws s hs h1, hws o ho h2, cuS_own (Int.le_of_lt hb) hs h1, cuS_own (Int.le_of_lt hb) ho h2]
    rcases Int.lt_trichotomy (yat L s) (yat L o) with h | h | h
    · exact .inl (cuS_mono (Int.le_of_lt hb) (.inl h))
    · rcases Nat.lt_or_gt_of_ne hne with g | g
      · exact .inl (cuS_mono (Int.le_of_lt hb) (.inr ⟨h, g⟩))
      · exact .inr (cuS_mono (Int.le_of_lt hb) (.inr ⟨h.symm, g⟩))
    · exact .inr (cuS_mono (Int.le_of_lt hb) (.inl h))
theorem ap_lt (hb : 0 < b) (ha : apart b L W) (hL : ∀ x ∈ L, x ≤ 25) {s : Nat} (hs : s < L.length) (h : 0 ≤ yat L s) : 0 ≤ yat W s ∧ yat W s < b ^ (yat L s).toNat := by
  obtain ⟨h1, h2⟩ := ha.1 s hs h
  have h3 := hL _ (yat_mem' hs)
  refine ⟨h1, Int.lt_of_add_one_le ?_⟩
  have h4 : b ^ 25 = b ^ (yat L s).toNat * vw b L s := by
    rw [← Int.pow_add, show (yat L s).toNat + (25 - yat L s).toNat = 25 by omega]
  have h5 : (yat W s + 1) * vw b L s ≤ b ^ (yat L s).toNat * vw b L s := by
    rw [Int.add_mul, Int.one_mul, ← h4]
    exact h2
  exact Int.le_of_mul_le_mul_right h5 (vw_pos hb s)
/-- a word that begins another one has its share in it -/
theorem ap_no (hb : 0 < b) (ha : apart b L W) (hL : ∀ x ∈ L, x ≤ 25) {s o : Nat} (hs : s < L.length) (ho : o < L.length) (hne : s ≠ o) (h1 : 0 ≤ yat L s) (h2 : yat L s ≤ yat L o) : yat W o / b ^ (yat L o - yat L s).toNat ≠ yat W s := by
  intro h
  have h3 := hL _ (yat_mem' ho)
  have hp : 0 < b ^ (yat L o - yat L s).toNat := Int.pow_pos hb
  have e1 := Int.mul_ediv_self_le (x := yat W o) (k := b ^ (yat L o - yat L s).toNat) (Int.ne_of_gt hp)
  have e2 := Int.lt_mul_ediv_self_add (x := yat W o) (k := b ^ (yat L o - yat L s).toNat) hp
  rw [h] at e1 e2
  have e3 : vw b L s = b ^ (yat L o - yat L s).toNat * vw b L o := by
    rw [← Int.pow_add, show (yat L o - yat L s).toNat + (25 - yat L o).toNat = (25 - yat L s).toNat by omega]
  have hq := vw_pos (L := L) hb o
  have e4 : vl b L W s ≤ vl b L W o := by
    show yat W s * vw b L s ≤ yat W o * vw b L o
    rw [e3, ← Int.mul_assoc, Int.mul_comm (yat W s)]
    exact Int.mul_le_mul_of_nonneg_right e1 (Int.le_of_lt hq)
  have e5 : vl b L W o + vw b L o ≤ vl b L W s + vw b L s := by
    have : (yat W o + 1) * vw b L o ≤ (b ^ (yat L o - yat L s).toNat * yat W s + b ^ (yat L o - yat L s).toNat) * vw b L o := Int.mul_le_mul_of_nonneg_right (by omega) (Int.le_of_lt hq)
    rw [Int.add_mul, Int.one_mul, Int.add_mul, ← e3, Int.mul_comm _ (yat W s), Int.mul_assoc, ← e3] at this
    exact this
  rcases ha.2 s o hs ho h1 (by omega) hne with h6 | h6
  · omega
  · have := vw_pos (L := L) hb s
    omega
theorem apI_true {kind : Int} (hb : bs kind = b) (hb0 : 0 < b) (ha : apart b L W) (hL : ∀ x ∈ L, x ≤ 25) {s : Nat} (hs : s < L.length) : ∀ (j o : Nat), o + j = L.length → apI kind L W s j o = true
  | 0, _, _ => rfl
  | j + 1, o, ho => by
    rw [apI, if_neg, apI_true hb hb0 ha hL hs j (o + 1) (by omega)]
    rintro ⟨h1, h2⟩
    unfold bgF at h2
    rw [hb] at h2
    by_cases h3 : 0 ≤ yat L s ∧ 0 ≤ yat L o - yat L s ∧ yat W o / b ^ (yat L o - yat L s).toNat = yat W s
    · exact ap_no hb0 ha hL hs (by omega) h1 h3.1 (by omega) h3.2.2
    · rw [if_neg h3] at h2
      omega
theorem apF_true {kind : Int} (hb : bs kind = b) (hb0 : 0 < b) (ha : apart b L W) (hL : ∀ x ∈ L, x ≤ 25) : ∀ (j s : Nat), s + j = L.length → apF kind L W j s = true
  | 0, _, _ => rfl
  | j + 1, s, hs => by
    rw [apF, if_pos (apI_true hb hb0 ha hL (by omega) L.length 0 (by omega)), apF_true hb hb0 ha hL j (s + 1) (by omega)]
/-- one digit more -/
theorem dg_more (hb : 0 < b) (w : Int) {k : Nat} : w / b ^ k = b * (w / b ^ (k + 1)) + w / b ^ k % b := by
  have h1 : w / b ^ (k + 1) = w / b ^ k / b := by
    rw [Int.pow_succ, Int.ediv_ediv_of_nonneg (Int.le_of_lt (Int.pow_pos hb))]
  rw [h1]
  exact (Int.mul_ediv_add_emod (w / b ^ k) b).symm
theorem vl_lt (hb : 0 < b) (hL : ∀ x ∈ L, x ≤ 25) {s o p : Nat} (hs : s < L.length) (ho : o < L.length) (h1 : (p : Int) ≤ yat L s) (h2 : (p : Int) ≤ yat L o) (h : yat W s / b ^ (yat L s - p).toNat < yat W o / b ^ (yat L o - p).toNat) : vl b L W s < vl b L W o := by
  have h3 := hL _ (yat_mem' ho)
  have h4 := hL _ (yat_mem' hs)
  have g1 : 0 < b ^ (yat L s - p).toNat := Int.pow_pos hb
  have g2 : 0 < b ^ (yat L o - p).toNat := Int.pow_pos hb
  have e1 := Int.lt_mul_ediv_self_add (x := yat W s) (k := b ^ (yat L s - p).toNat) g1
  have e2 := Int.mul_ediv_self_le (x := yat W o) (k := b ^ (yat L o - p).toNat) (Int.ne_of_gt g2)
  obtain ⟨x, hx⟩ : ∃ x, x = yat W s / b ^ (yat L s - p).toNat := ⟨_, rfl⟩
  obtain ⟨y, hy⟩ : ∃ y, y = yat W o / b ^ (yat L o - p).toNat := ⟨_, rfl⟩
  rw [← hx, ← hy] at h
  rw [← hx] at e1
  rw [← hy] at e2
  have f1 : b ^ (yat L s - p).toNat * vw b L s = b ^ (25 - p) := by
    rw [← Int.pow_add, show (yat L s - p).toNat + (25 - yat L s).toNat = 25 - p by omega]
  have f2 : b ^ (yat L o - p).toNat * vw b L o = b ^ (25 - p) := by
    rw [← Int.pow_add, show (yat L o - p).toNat + (25 - yat L o).toNat = 25 - p by omega]
  have hq := vw_pos (L := L) hb o
  have hq2 := vw_pos (L := L) hb s
  have k1 : vl b L W s < (x + 1) * b ^ (25 - p) := by
    have : yat W s * vw b L s < (b ^ (yat L s - p).toNat * x + b ^ (yat L s - p).toNat) * vw b L s := Int.mul_lt_mul_of_pos_right e1 hq2
    rw [Int.add_mul, Int.mul_comm _ x, Int.mul_assoc, f1] at this
    rw [Int.add_mul, Int.one_mul]
    exact this
  have k2 : y * b ^ (25 - p) ≤ vl b L W o := by
    have : b ^ (yat L o - p).toNat * y * vw b L o ≤ yat W o * vw b L o := Int.mul_le_mul_of_nonneg_right e2 (Int.le_of_lt hq)
    rw [Int.mul_comm _ y, Int.mul_assoc, f2] at this
    exact this
  have k3 : (x + 1) * b ^ (25 - p) ≤ y * b ^ (25 - p) := Int.mul_le_mul_of_nonneg_right (by omega) (Int.le_of_lt (Int.pow_pos hb))
  omega
/-- comparing digit by digit is comparing shares -/
theorem ahF_vl (hb : 0 < b) (ha : apart b L W) (hL : ∀ x ∈ L, x ≤ 25) {s o : Nat} (hs : s < L.length) (ho : o < L.length) (hne : s ≠ o) : ∀ (j p : Nat), p + j = 26 → (p : Int) ≤ yat L s → (p : Int) ≤ yat L o → yat W s / b ^ (yat L s - p).toNat = yat W o / b ^ (yat L o - p).toNat → (ahF b L W s o j p = 1 ↔ vl b L W s < vl b L W o)
  | 0, p, hp, h1, h2, h => by
    have := hL _ (yat_mem' hs)
    omega
  | j + 1, p, hp, h1, h2, h => by
    by_cases h3 : (p : Int) < yat L s ∧ (p : Int) < yat L o
    · have m1 := dg_more hb (yat W s) (k := (yat L s - 1 - p).toNat)
      have m2 := dg_more hb (yat W o) (k := (yat L o - 1 - p).toNat)
      rw [show (yat L s - 1 - p).toNat + 1 = (yat L s - p).toNat by omega, h] at m1
      rw [show (yat L o - 1 - p).toNat + 1 = (yat L o - p).toNat by omega] at m2
      have d1 : dgF b L W s p = yat W s / b ^ (yat L s - 1 - p).toNat % b := rfl
      have d2 : dgF b L W o p = yat W o / b ^ (yat L o - 1 - p).toNat % b := rfl
      rw [← d1] at m1
      rw [← d2] at m2
      have q1 : (yat L s - 1 - p).toNat = (yat L s - ((p + 1 : Nat) : Int)).toNat := by omega
      have q2 : (yat L o - 1 - p).toNat = (yat L o - ((p + 1 : Nat) : Int)).toNat := by omega
      rw [q1] at m1
      rw [q2] at m2
      rw [ahF, if_pos h3]
      by_cases h4 : dgF b L W s p = dgF b L W o p
      · rw [if_pos h4]
        exact ahF_vl hb ha hL hs ho hne j (p + 1) (by omega) (by omega) (by omega) (by rw [m1, m2, h4])
      · rw [if_neg h4]
        by_cases h5 : dgF b L W s p < dgF b L W o p
        · rw [if_pos h5]
          simp only [true_iff]
          exact vl_lt hb hL hs ho (p := p + 1) (by omega) (by omega) (by omega)
        · rw [if_neg h5]
          simp only [Int.reduceEq, false_iff]
          have := vl_lt (W := W) hb hL ho hs (p := p + 1) (by omega) (by omega) (by omega)
          omega
    · exfalso
      by_cases h4 : yat L s = p
      · rw [h4, Int.sub_self] at h
        have := ap_no hb ha hL hs ho hne (by omega) (by omega)
        rw [h4] at this
        rw [show ((0 : Int)).toNat = 0 from rfl, Int.pow_zero, Int.ediv_one] at h
        exact this h.symm
      · have h5 : yat L o = p := by omega
        rw [h5, Int.sub_self] at h
        have := ap_no hb ha hL ho hs (Ne.symm hne) (by omega) (by omega)
        rw [h5] at this
        rw [show ((0 : Int)).toNat = 0 from rfl, Int.pow_zero, Int.ediv_one] at h
        exact this h
end
