/-! the pure part: words by lengths, as shares -/
/-- whether the word of one sign stands ahead, by length and sign -/
abbrev bfB (L : List Int) (len : Int) (k s : Nat) : Prop := 0 ≤ yat L s ∧ (yat L s < len ∨ (yat L s = len ∧ s < k))
/-- the shares of all words ahead -/
def cuS (b : Int) (L : List Int) (len : Int) (k : Nat) : Int := sF (fun s => if bfB L len k s then b ^ (25 - yat L s).toNat else 0) 0 L.length
section
variable {b : Int} {L W : List Int}
theorem cuS_0 : cuS b L 0 0 = 0 := by
  unfold cuS
  refine Eq.trans (sF_congr (g := fun _ => 0) _ _ fun i _ _ => if_neg fun h => ?_) (sF_0 L.length 0)
  unfold bfB at h
  omega
theorem cuS_step {len : Int} {k : Nat} (hk : k < L.length) (h0 : 0 ≤ len) : cuS b L len (k + 1) = cuS b L len k + (if yat L k = len then b ^ (25 - len).toNat else 0) := by
  unfold cuS
  by_cases h : yat L k = len
  · rw [sF_upd (f := fun s => if bfB L len (k + 1) s then b ^ (25 - yat L s).toNat else 0) (g := fun s => if bfB L len k s then b ^ (25 - yat L s).toNat else 0) (c := k) L.length 0 (Nat.zero_le _) (by omega) (fun i hi => by
      have : bfB L len (k + 1) i ↔ bfB L len k i := by unfold bfB; omega
      simp only [this])]
    congr 1
    show (if bfB L len (k + 1) k then b ^ (25 - yat L k).toNat else 0) - (if bfB L len k k then b ^ (25 - yat L k).toNat else 0) = _
    rw [if_neg (show ¬ bfB L len k k by unfold bfB; omega), if_pos h, if_pos (show bfB L len (k + 1) k by unfold bfB; omega), h]
    omega
  · rw [if_neg h, Int.add_zero]
    refine sF_congr _ _ fun i _ _ => ?_
    have : bfB L len (k + 1) i ↔ bfB L len k i := by
      by_cases hi : i = k
      · subst hi
        unfold bfB
        omega
      · unfold bfB
        omega
    simp only [this]
theorem cuS_next {len : Int} (h0 : 0 ≤ len) : cuS b L (len + 1) 0 = cuS b L len L.length := by
  unfold cuS
  refine sF_congr _ _ fun i _ hi => ?_
  have : bfB L (len + 1) 0 i ↔ bfB L len L.length i := by unfold bfB; omega
  simp only [this]
theorem cuS_mono (hb : 0 ≤ b) {len len' : Int} {k k' : Nat} (h : len < len' ∨ (len = len' ∧ k ≤ k')) : cuS b L len k ≤ cuS b L len' k' := by
  unfold cuS
  refine sF_mono _ _ fun i _ _ => ?_
  have hp : 0 ≤ b ^ (25 - yat L i).toNat := Int.pow_nonneg hb
  split
  · rename_i h1
    rw [if_pos (by unfold bfB at h1 ⊢; omega)]
    exact Int.le_refl _
  · split
    · exact hp
    · exact Int.le_refl _
theorem cuS_all (hb : 0 ≤ b) {len : Int} {k : Nat} : cuS b L len k ≤ shF b L := by
  unfold cuS
  rw [shF_sF]
  refine sF_mono _ _ fun i _ _ => ?_
  have hp : 0 ≤ b ^ (25 - yat L i).toNat := Int.pow_nonneg hb
  split
  · rename_i h1
    rw [if_pos h1.1]
    exact Int.le_refl _
  · split
    · exact hp
    · exact Int.le_refl _
theorem cuS_nn (hb : 0 ≤ b) {len : Int} {k : Nat} : 0 ≤ cuS b L len k := by
  unfold cuS
  refine Int.le_trans (Int.le_of_eq (sF_0 L.length 0).symm) (sF_mono _ _ fun i _ _ => ?_)
  have hp : 0 ≤ b ^ (25 - yat L i).toNat := Int.pow_nonneg hb
  show 0 ≤ _
  split
  · exact hp
  · exact Int.le_refl _
/-- a word as its share -/
abbrev wsB (b : Int) (L W : List Int) (s : Nat) : Prop := yat W s * b ^ (25 - yat L s).toNat = cuS b L (yat L s) s
theorem lbIn_ok {len : Int} (h0 : 0 ≤ len) : ∀ (j s : Nat) (q : List Int × Int), s + j = L.length → q.1.length = L.length → q.2 * b ^ (25 - len).toNat = cuS b L len s → (lbIn L len j s q).2 * b ^ (25 - len).toNat = cuS b L len L.length ∧ ∀ i : Nat, i < L.length → (s ≤ i → yat L i = len → wsB b L (lbIn L len j s q).1 i) ∧ (¬ (s ≤ i ∧ yat L i = len) → yat (lbIn L len j s q).1 i = yat q.1 i)
  | 0, s, q, hs, hq, hv => by
    rw [Nat.add_zero] at hs
    rw [lbIn, ← hs]
    exact ⟨hv, fun i hi => ⟨fun h => by omega, fun _ => rfl⟩⟩
  | j + 1, s, q, hs, hq, hv => by
    rw [lbIn]
    have hst := cuS_step (b := b) (L := L) (len := len) (k := s) (by omega) h0
    by_cases h : yat L s = len
    · rw [if_pos h] at hst
      rw [if_pos h]
      obtain ⟨i1, i2⟩ := lbIn_ok h0 j (s + 1) (q.1.set s q.2, q.2 + 1) (by omega) (by rw [List.length_set]; exact hq) (by
        rw [hst, ← hv]
        show (q.2 + 1) * _ = _
        rw [Int.add_mul, Int.one_mul])
      refine ⟨i1, fun i hi => ⟨fun g1 g2 => ?_, fun g => ?_⟩⟩
      · by_cases hie : i = s
        · subst hie
          unfold wsB
          rw [(i2 i hi).2 (by omega), yat_setn (by omega), if_pos rfl, h]
          exact hv
        · exact (i2 i hi).1 (by omega) g2
      · rw [(i2 i hi).2 (by omega), yat_setn (by omega), if_neg (fun g2 => g (by rw [g2]; exact ⟨Nat.le_refl _, h⟩))]
    · rw [if_neg h, Int.add_zero] at hst
      rw [if_neg h]
      obtain ⟨i1, i2⟩ := lbIn_ok h0 j (s + 1) q (by omega) hq (by rw [hst]; exact hv)
      refine ⟨i1, fun i hi => ⟨fun g1 g2 => ?_, fun g => ?_⟩⟩
      · exact (i2 i hi).1 (by
          by_cases hie : i = s
          · subst hie
            exact absurd g2 h
          · omega) g2
      · exact (i2 i hi).2 (by omega)
theorem lbOut_ok : ∀ (j : Nat) (len : Int) (q : List Int × Int), 0 ≤ len → len + j ≤ 26 → q.1.length = L.length → (0 < j → q.2 * b ^ (25 - len).toNat = cuS b L len 0) → ∀ i : Nat, i < L.length → (len ≤ yat L i → yat L i < len + j → wsB b L (lbOut b L j len q).1 i) ∧ (¬ (len ≤ yat L i ∧ yat L i < len + j) → yat (lbOut b L j len q).1 i = yat q.1 i)
  | 0, len, q, _, _, _, _, i, hi => ⟨fun g1 g2 => by omega, fun _ => rfl⟩
  | j + 1, len, q, h0, hl, hq, hv, i, hi => by
    rw [lbOut]
    obtain ⟨i1, i2⟩ := lbIn_ok (b := b) (L := L) h0 L.length 0 q (by omega) hq (hv (by omega))
    have ih := lbOut_ok j (len + 1) ((lbIn L len L.length 0 q).1, (lbIn L len L.length 0 q).2 * b) (by omega) (by omega) (by rw [lbIn_len]; exact hq) (fun hj => by
      rw [cuS_next h0, ← i1]
      show (lbIn L len L.length 0 q).2 * b * b ^ (25 - (len + 1)).toNat = _
      rw [show (25 - len).toNat = (25 - (len + 1)).toNat + 1 by omega, Int.pow_succ, Int.mul_assoc, Int.mul_comm b]) i hi
    refine ⟨fun g1 g2 => ?_, fun g => ?_⟩
    · by_cases h : yat L i = len
      · have h1 := (i2 i hi).1 (Nat.zero_le _) h
        have h2 := ih.2 (by omega)
        unfold wsB at h1 ⊢
        rw [h2]
        exact h1
      · exact ih.1 (by omega) (by omega)
    · rw [ih.2 (by omega)]
      exact (i2 i hi).2 (by omega)
theorem mxl_ge (L : List Int) : ∀ m : Int, m ≤ mxl L m ∧ ∀ x ∈ L, x ≤ mxl L m := by
  induction L with
  | nil => exact fun m => ⟨Int.le_refl _, fun x hx => by cases hx⟩
  | cons y t ih =>
    intro m
    have hd : mxl (y :: t) m = mxl t (if m < y then y else m) := rfl
    by_cases hmy : m < y
    · rw [if_pos hmy] at hd
      rw [hd]
      obtain ⟨h1, h2⟩ := ih y
      refine ⟨by omega, fun x hx => ?_⟩
      rcases List.mem_cons.mp hx with rfl | hx
      · exact h1
      · exact h2 x hx
    · rw [if_neg hmy] at hd
      rw [hd]
      obtain ⟨h1, h2⟩ := ih m
      refine ⟨h1, fun x hx => ?_⟩
      rcases List.mem_cons.mp hx with rfl | hx
      · omega
      · exact h2 x hx
theorem mxl_le (L : List Int) {c : Int} (h : ∀ x ∈ L, x ≤ c) : ∀ m : Int, m ≤ c → mxl L m ≤ c := by
  induction L with
  | nil => exact fun m hm => hm
  | cons y t ih =>
    intro m hm
    have := h y (List.mem_cons_self ..)
    exact ih (fun x hx => h x (List.mem_cons_of_mem _ hx)) (if m < y then y else m) (by split <;> omega)
theorem yat_mem' {L : List Int} {s : Nat} (hs : s < L.length) : yat L s ∈ L := by
  rw [yat_n, getD_get hs]
  exact List.getElem_mem _
/-- the class's words by lengths are the shares ahead -/
theorem lbW_ok (hL : ∀ x ∈ L, x ≤ 25) (hW : W.length = L.length) {s : Nat} (hs : s < L.length) : (0 ≤ yat L s → wsB b L (lbW b L W) s) ∧ (¬ 0 ≤ yat L s → yat (lbW b L W) s = yat W s) := by
  have h1 := mxl_ge L 0
  have h2 := mxl_le L hL 0 (by omega)
  have h3 := lbOut_ok (b := b) (L := L) ((mxl L 0).toNat + 1) 0 (W, 0) (Int.le_refl _) (by omega) hW (fun _ => by rw [cuS_0, Int.zero_mul]) s hs
  have h4 := h1.2 _ (yat_mem' hs)
  exact ⟨fun h => h3.1 h (by omega), fun h => h3.2 (by omega)⟩
/-- the reference's words by lengths are the same shares -/
abbrev woP (b : Int) (L : List Int) (len : Int) (s : Nat) (q : wdT) : Prop := -1 ≤ q.2.2 ∧ q.2.2 ≤ len ∧ (if q.2.2 < 0 then q.2.1 = 0 ∧ cuS b L len s = 0 else q.2.1 * b ^ (25 - q.2.2).toNat = cuS b L len s)
theorem wo_now {len : Int} {s : Nat} {q : wdT} (h : woP b L len s q) (hl : len ≤ 25) : q.2.1 * b ^ (if q.2.2 < 0 then 0 else len - q.2.2).toNat * b ^ (25 - len).toNat = cuS b L len s := by
  obtain ⟨h1, h2, h3⟩ := h
  split at h3
  · rename_i h4
    rw [h3.1, h3.2, Int.zero_mul, Int.zero_mul]
  · rename_i h4
    rw [if_neg h4, Int.mul_assoc, ← Int.pow_add, show (len - q.2.2).toNat + (25 - len).toNat = (25 - q.2.2).toNat by omega]
    exact h3
theorem woI_ok {len : Int} (h0 : 0 ≤ len) (hl : len ≤ 25) : ∀ (j s : Nat) (q : wdT), s + j = L.length → q.1.length = L.length → woP b L len s q → woP b L len L.length (woI b L len j s q) ∧ ∀ i : Nat, i < L.length → (s ≤ i → yat L i = len → wsB b L (woI b L len j s q).1 i) ∧ (¬ (s ≤ i ∧ yat L i = len) → yat (woI b L len j s q).1 i = yat q.1 i)
  | 0, s, q, hs, hq, hv => by
    rw [Nat.add_zero] at hs
    rw [woI, ← hs]
    exact ⟨hv, fun i hi => ⟨fun h => by omega, fun _ => rfl⟩⟩
  | j + 1, s, q, hs, hq, hv => by
    rw [woI]
    have hst := cuS_step (b := b) (L := L) (len := len) (k := s) (by omega) h0
    by_cases h : yat L s = len
    · rw [if_pos h] at hst
      rw [if_pos h]
      have hn := wo_now hv hl
      obtain ⟨i1, i2⟩ := woI_ok h0 hl j (s + 1) (yput q.1 s (q.2.1 * b ^ (if q.2.2 < 0 then 0 else len - q.2.2).toNat), q.2.1 * b ^ (if q.2.2 < 0 then 0 else len - q.2.2).toNat + 1, len) (by omega) (by rw [yput_len]; exact hq) ⟨by show -1 ≤ len; omega, Int.le_refl _, by
        show (if len < 0 then _ else (q.2.1 * b ^ (if q.2.2 < 0 then 0 else len - q.2.2).toNat + 1) * b ^ (25 - len).toNat = cuS b L len (s + 1))
        rw [if_neg (by omega), hst, ← hn, Int.add_mul, Int.one_mul]⟩
      refine ⟨i1, fun i hi => ⟨fun g1 g2 => ?_, fun g => ?_⟩⟩
      · by_cases hie : i = s
        · subst hie
          unfold wsB
          rw [(i2 i hi).2 (by omega), yat_pn (by omega), if_pos rfl, h]
          exact hn
        · exact (i2 i hi).1 (by omega) g2
      · rw [(i2 i hi).2 (by omega), yat_pn (by omega), if_neg (fun g2 => g (by rw [g2]; exact ⟨Nat.le_refl _, h⟩))]
    · rw [if_neg h, Int.add_zero] at hst
      rw [if_neg h]
      obtain ⟨i1, i2⟩ := woI_ok h0 hl j (s + 1) q (by omega) hq (by unfold woP at hv ⊢; rw [hst]; exact hv)
      refine ⟨i1, fun i hi => ⟨fun g1 g2 => ?_, fun g => ?_⟩⟩
      · exact (i2 i hi).1 (by
          by_cases hie : i = s
          · subst hie
            exact absurd g2 h
          · omega) g2
      · exact (i2 i hi).2 (by omega)
theorem woI_none {len : Int} (hL : ∀ x ∈ L, x < len) : ∀ (j s : Nat) (q : wdT), s + j = L.length → woI b L len j s q = q
  | 0, _, _, _ => rfl
  | j + 1, s, q, hs => by
    rw [woI, if_neg (by have := hL _ (yat_mem' (show s < L.length by omega)); omega), woI_none hL j (s + 1) q (by omega)]
theorem woO_none : ∀ (j len : Nat) (q : wdT), (∀ x ∈ L, x < (len : Int)) → woO b L j len q = q
  | 0, _, _, _ => rfl
  | j + 1, len, q, h => by
    rw [woO, woI_none h L.length 0 q (by omega), woO_none j (len + 1) q (fun x hx => by have := h x hx; omega)]
theorem woO_app : ∀ (j k len : Nat) (q : wdT), woO b L (j + k) len q = woO b L k (len + j) (woO b L j len q)
  | 0, k, len, q => by rw [Nat.zero_add]; rfl
  | j + 1, k, len, q => by
    rw [show j + 1 + k = (j + k) + 1 by omega, woO, woO, woO_app j k (len + 1), show len + 1 + j = len + (j + 1) by omega]
theorem woO_ok : ∀ (j len : Nat) (q : wdT), len + j ≤ 26 → q.1.length = L.length → woP b L len 0 q → ∀ i : Nat, i < L.length → ((len : Int) ≤ yat L i → yat L i < len + j → wsB b L (woO b L j len q).1 i) ∧ (¬ ((len : Int) ≤ yat L i ∧ yat L i < len + j) → yat (woO b L j len q).1 i = yat q.1 i)
  | 0, len, q, _, _, _, i, hi => ⟨fun g1 g2 => by omega, fun _ => rfl⟩
  | j + 1, len, q, hl, hq, hv, i, hi => by
    rw [woO]
    obtain ⟨i1, i2⟩ := woI_ok (b := b) (L := L) (len := len) (by omega) (by omega) L.length 0 q (by omega) hq hv
    have ih := woO_ok j (len + 1) (woI b L len L.length 0 q) (by omega) (by rw [woI_len]; exact hq) (by
      unfold woP at i1 ⊢
      rw [show ((len + 1 : Nat) : Int) = (len : Int) + 1 by omega, cuS_next (by omega)]
      exact ⟨i1.1, by omega, i1.2.2⟩) i hi
    refine ⟨fun g1 g2 => ?_, fun g => ?_⟩
    · by_cases h : yat L i = len
      · have h1 := (i2 i hi).1 (Nat.zero_le _) h
        have h2 := ih.2 (by omega)
        unfold wsB at h1 ⊢
        rw [h2]
        exact h1
      · exact ih.1 (by omega) (by omega)
    · rw [ih.2 (by omega)]
      exact (i2 i hi).2 (by omega)
theorem woW_ok (hL : ∀ x ∈ L, x ≤ 25) (hW : W.length = L.length) {s : Nat} (hs : s < L.length) : (0 ≤ yat L s → wsB b L (woW b L W) s) ∧ (¬ 0 ≤ yat L s → yat (woW b L W) s = yat W s) := by
  have e : woW b L W = (woO b L 26 0 (W, 0, -1)).1 := by
    unfold woW
    rw [show 53 = 26 + 27 from rfl, woO_app 26 27 0, woO_none 27 _ _ (fun x hx => by have := hL x hx; omega)]
  rw [e]
  have h3 := woO_ok (b := b) (L := L) 26 0 (W, 0, -1) (by omega) hW ⟨Int.le_refl _, by show (-1 : Int) ≤ ((0 : Nat) : Int); omega, by
    show (if (-1 : Int) < 0 then (0 : Int) = 0 ∧ cuS b L ((0 : Nat) : Int) 0 = 0 else _)
    rw [if_pos (by decide)]
    exact ⟨rfl, cuS_0⟩⟩ s hs
  have h4 := hL _ (yat_mem' hs)
  exact ⟨fun h => h3.1 (by omega) (by omega), fun h => h3.2 (by omega)⟩
theorem pow_pos' (hb : 0 < b) (n : Nat) : 0 < b ^ n := Int.pow_pos hb
theorem ws_unique (hb : 0 < b) {W' : List Int} {s : Nat} (h1 : wsB b L W s) (h2 : wsB b L W' s) : yat W s = yat W' s := by
  unfold wsB at h1 h2
  exact Int.eq_of_mul_eq_mul_right (Int.ne_of_gt (Int.pow_pos hb)) (h1.trans h2.symm)
theorem lbOut_len : ∀ (j : Nat) (len : Int) (q : List Int × Int), (lbOut b L j len q).1.length = q.1.length
  | 0, _, _ => rfl
  | j + 1, len, q => by
    rw [lbOut, lbOut_len j, lbIn_len]
theorem lbW_len : (lbW b L W).length = W.length := lbOut_len ..
theorem woW_lbW (hb : 0 < b) (hL : ∀ x ∈ L, x ≤ 25) (hW : W.length = L.length) : woW b L W = lbW b L W := by
  have l1 := woW_len b L W
  have l2 : (lbW b L W).length = W.length := lbW_len ..
  refine List.ext_getElem (by omega) fun s h1 h2 => ?_
  have e1 : (woW b L W)[s] = yat (woW b L W) s := by rw [yat_n, getD_get h1]
  have e2 : (lbW b L W)[s] = yat (lbW b L W) s := by rw [yat_n, getD_get h2]
  rw [e1, e2]
  have a1 := woW_ok (b := b) hL hW (s := s) (by omega)
  have a2 := lbW_ok (b := b) hL hW (s := s) (by omega)
  by_cases h : 0 ≤ yat L s
  · exact ws_unique hb (a1.1 h) (a2.1 h)
  · rw [a1.2 h, a2.2 h]
end
