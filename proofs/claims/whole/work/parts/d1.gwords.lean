/-! the pure part: words in order -/
section
variable {L : List Int}
def cmL (L : List Int) (s : Nat) : Int := sF (fun (o : Nat) => if 0 ≤ yat L o then shr (yat L o) else 0) 0 s
/-- lengths that stand aligned -/
def alL (L : List Int) : Prop := L.length = 26 ∧ (∀ x ∈ L, x ≤ 25) ∧ (∀ s : Nat, s < 26 → 0 ≤ yat L s → shr (yat L s) ∣ cmL L s) ∧ cmL L 26 = 2 ^ 25
theorem shr_pos (l : Int) : 0 < shr l := Int.pow_pos (by omega)
theorem cm_step (s : Nat) : cmL L (s + 1) = cmL L s + (if 0 ≤ yat L s then shr (yat L s) else 0) := by
  unfold cmL
  rw [sF_end, Nat.zero_add]
theorem cm_mono {s : Nat} : ∀ k : Nat, cmL L s ≤ cmL L (s + k)
  | 0 => Int.le_refl _
  | k + 1 => by
    have h1 := cm_mono (s := s) k
    have h2 := cm_step (L := L) (s + k)
    have h3 := shr_pos (yat L ((s + k : Nat) : Int))
    rw [show s + (k + 1) = s + k + 1 by omega, h2]
    split <;> omega
theorem cm_le (h : alL L) {s : Nat} (hs : s ≤ 26) : 0 ≤ cmL L s ∧ cmL L s ≤ 2 ^ 25 := by
  have h1 := cm_mono (L := L) (s := 0) s
  have h2 := cm_mono (L := L) (s := s) (26 - s)
  rw [show s + (26 - s) = 26 by omega, h.2.2.2] at h2
  rw [Nat.zero_add] at h1
  exact ⟨h1, h2⟩
/-- the next word -/
theorem nw_ok {a l w c : Int} (ha : 0 ≤ a ∧ a ≤ 25) (hl : 0 ≤ l ∧ l ≤ 25) (hw : 0 ≤ w) (hc : w * shr a = c) (hd : shr l ∣ c) : 0 ≤ (if a ≤ l then w * 2 ^ (l - a).toNat else w / 2 ^ (a - l).toNat) ∧ (if a ≤ l then w * 2 ^ (l - a).toNat else w / 2 ^ (a - l).toNat) * shr l = c := by
  by_cases h : a ≤ l
  · rw [if_pos h]
    refine ⟨Int.mul_nonneg hw (Int.le_of_lt (Int.pow_pos (by omega))), ?_⟩
    rw [Int.mul_assoc]
    unfold shr at hc ⊢
    rw [← Int.pow_add, show (l - a).toNat + (25 - l).toNat = (25 - a).toNat by omega]
    exact hc
  · rw [if_neg h]
    have hp : (0 : Int) < 2 ^ (a - l).toNat := Int.pow_pos (by omega)
    refine ⟨Int.ediv_nonneg hw (Int.le_of_lt hp), ?_⟩
    have e : shr l = 2 ^ (a - l).toNat * shr a := by
      unfold shr
      rw [← Int.pow_add]
      congr 1
      omega
    have h2 : (2 : Int) ^ (a - l).toNat ∣ w := by
      rw [e, ← hc] at hd
      exact Int.dvd_of_mul_dvd_mul_right (by have := shr_pos a; omega) hd
    rw [e, ← Int.mul_assoc, Int.ediv_mul_cancel h2]
    exact hc
def inV (L : List Int) (s : Nat) (w a : Int) : Prop := (a < 0 ∧ w = 0 ∧ cmL L s = 0) ∨ ((0 ≤ a ∧ a ≤ 25) ∧ 0 ≤ w ∧ w * shr a = cmL L s)
theorem inV_next (h : alL L) {s : Nat} (hs : s < 26) {w a : Int} (hi : inV L s w a) (h0 : 0 ≤ yat L s) : 0 ≤ (if 0 ≤ a then (if a ≤ yat L s then w * 2 ^ (yat L s - a).toNat else w / 2 ^ (a - yat L s).toNat) else w) ∧ (if 0 ≤ a then (if a ≤ yat L s then w * 2 ^ (yat L s - a).toNat else w / 2 ^ (a - yat L s).toNat) else w) * shr (yat L s) = cmL L s := by
  have h25 := h.2.1 _ (yat_mem' (L := L) (s := s) (by rw [h.1]; exact hs))
  rcases hi with ⟨h1, h2, h3⟩ | ⟨h1, h2, h3⟩
  · rw [if_neg (by omega), h2, h3]
    simp
  · rw [if_pos h1.1]
    exact nw_ok h1 ⟨h0, h25⟩ h2 h3 (h.2.2.1 s hs h0)
theorem mul_le1 {w x c : Int} (hx : 0 < x) (hw : 0 ≤ w) (h : w * x = c) : w ≤ c := by
  have : w * 1 ≤ w * x := Int.mul_le_mul_of_nonneg_left (by omega) hw
  omega
theorem ls_ok (h : alL L) : ∀ (j s : Nat) (w a : Int) (W : List Int), s + j = 26 → W.length = 26 → (if 0 ≤ a then inV L s (w + 1) a ∧ 0 ≤ w else inV L s w a) → lsK L j s w a ∧ ∀ i : Nat, i < 26 → (s ≤ i → 0 ≤ yat L i → 0 ≤ yat (lsF L j s w a W) i ∧ yat (lsF L j s w a W) i * shr (yat L i) = cmL L i) ∧ (i < s ∨ ¬ 0 ≤ yat L i → yat (lsF L j s w a W) i = yat W i)
  | 0, s, w, a, W, hs, hW, hi => by
    refine ⟨trivial, fun i hi2 => ⟨fun h1 => by omega, fun _ => rfl⟩⟩
  | j + 1, s, w, a, W, hs, hW, hi => by
    have h25 := h.2.1 _ (yat_mem' (L := L) (s := s) (by rw [h.1]; omega))
    by_cases h0 : 0 ≤ yat L s
    · obtain ⟨w', hw'⟩ : ∃ w', w' = if 0 ≤ a then (if a ≤ yat L s then (w + 1) * 2 ^ (yat L s - a).toNat else (w + 1) / 2 ^ (a - yat L s).toNat) else w := ⟨_, rfl⟩
      have hwr : 0 ≤ w ∧ w < 1073741824 := by
        by_cases ha : 0 ≤ a
        · rw [if_pos ha] at hi
          rcases hi.1 with h1 | h1
          · omega
          · have h2 := mul_le1 (shr_pos a) h1.2.1 h1.2.2
            have h3 := cm_le h (s := s) (by omega)
            omega
        · rw [if_neg ha] at hi
          rcases hi with h1 | h1 <;> omega
      have hn : 0 ≤ w' ∧ w' * shr (yat L s) = cmL L s := by
        by_cases ha : 0 ≤ a
        · rw [if_pos ha] at hi
          have := inV_next h (by omega) hi.1 h0
          rw [if_pos ha] at this
          rw [hw', if_pos ha]
          exact this
        · rw [if_neg ha] at hi
          have := inV_next h (by omega) hi h0
          rw [if_neg ha] at this
          rw [hw', if_neg ha]
          exact this
      have hw2 : w' < 1073741824 := by
        have h2 := mul_le1 (shr_pos _) hn.1 hn.2
        have h3 := cm_le h (s := s) (by omega)
        omega
      have hcs := cm_step (L := L) s
      rw [if_pos h0] at hcs
      have ih := ls_ok h j (s + 1) w' (yat L s) (W.set s w') (by omega) (by rw [List.length_set]; exact hW) (by
        rw [if_pos h0]
        refine ⟨.inr ⟨⟨h0, h25⟩, by omega, ?_⟩, hn.1⟩
        rw [Int.add_mul, Int.one_mul, hn.2, hcs])
      have eF : lsF L (j + 1) s w a W = lsF L j (s + 1) w' (yat L s) (W.set s w') := by
        rw [hw']
        exact if_pos h0
      have eK : lsK L (j + 1) s w a = ((0 ≤ w ∧ w < 1073741824 ∧ 0 ≤ w' ∧ w' < 1073741824) ∧ lsK L j (s + 1) w' (yat L s)) := by
        rw [hw']
        exact if_pos h0
      rw [eF, eK]
      refine ⟨⟨⟨hwr.1, hwr.2, hn.1, hw2⟩, ih.1⟩, fun i hi2 => ?_⟩
      obtain ⟨i1, i2⟩ := ih.2 i hi2
      by_cases his : i = s
      · subst his
        refine ⟨fun _ _ => ?_, fun h1 => ?_⟩
        · rw [i2 (.inl (by omega)), yat_setn (by omega), if_pos rfl]
          exact hn
        · omega
      · refine ⟨fun h1 h2 => i1 (by omega) h2, fun h1 => ?_⟩
        rw [i2 (by omega), yat_setn (by omega), if_neg his]
    · have hcs := cm_step (L := L) s
      rw [if_neg h0, Int.add_zero] at hcs
      have ih := ls_ok h j (s + 1) w a W (by omega) hW (by
        unfold inV at hi ⊢
        rw [hcs]
        exact hi)
      have eF : lsF L (j + 1) s w a W = lsF L j (s + 1) w a W := if_neg h0
      have eK : lsK L (j + 1) s w a = lsK L j (s + 1) w a := if_neg h0
      rw [eF, eK]
      refine ⟨ih.1, fun i hi2 => ?_⟩
      obtain ⟨i1, i2⟩ := ih.2 i hi2
      refine ⟨fun h1 h2 => i1 (by
        have : i ≠ s := fun e => h0 (e ▸ h2)
        omega) h2, fun h1 => i2 ?_⟩
      rcases h1 with h1 | h1
      · exact .inl (by omega)
      · exact .inr h1
theorem wi_ok (h : alL L) : ∀ (j s : Nat) (q : wdT), s + j = 26 → q.1.length = 26 → inV L s q.2.1 q.2.2 → wiK L j s q ∧ (wiF L j s q).1.length = 26 ∧ ∀ i : Nat, i < 26 → (s ≤ i → 0 ≤ yat L i → yat (wiF L j s q).1 i * shr (yat L i) = cmL L i) ∧ (i < s ∨ ¬ 0 ≤ yat L i → yat (wiF L j s q).1 i = yat q.1 i)
  | 0, s, q, hs, hW, hi => ⟨trivial, hW, fun i hi2 => ⟨fun h1 => by omega, fun _ => rfl⟩⟩
  | j + 1, s, q, hs, hW, hi => by
    have h25 := h.2.1 _ (yat_mem' (L := L) (s := s) (by rw [h.1]; omega))
    have hwr : 0 ≤ q.2.1 ∧ q.2.1 < 9000000000000000000 := by
      rcases hi with h1 | h1
      · omega
      · have h2 := mul_le1 (shr_pos q.2.2) h1.2.1 h1.2.2
        have h3 := cm_le h (s := s) (by omega)
        omega
    by_cases h0 : 0 ≤ yat L s
    · obtain ⟨w', hw'⟩ : ∃ w', w' = if q.2.2 < 0 then q.2.1 else if q.2.2 ≤ yat L s then q.2.1 * 2 ^ (yat L s - q.2.2).toNat else q.2.1 / 2 ^ (q.2.2 - yat L s).toNat := ⟨_, rfl⟩
      have hn : 0 ≤ w' ∧ w' * shr (yat L s) = cmL L s := by
        have := inV_next h (by omega) hi h0
        by_cases ha : q.2.2 < 0
        · rw [if_neg (by omega)] at this
          rw [hw', if_pos ha]
          exact this
        · rw [if_pos (by omega)] at this
          rw [hw', if_neg ha]
          exact this
      have hcs := cm_step (L := L) s
      rw [if_pos h0] at hcs
      have ih := wi_ok h j (s + 1) (yput q.1 s w', w' + 1, yat L s) (by omega) (by rw [yput_len]; exact hW) (.inr ⟨⟨h0, h25⟩, by show 0 ≤ w' + 1; omega, by
        show (w' + 1) * shr (yat L s) = _
        rw [Int.add_mul, Int.one_mul, hn.2, hcs]⟩)
      have e1 : (if 0 ≤ yat L s then (let w := if q.2.2 < 0 then q.2.1 else if q.2.2 ≤ yat L s then q.2.1 * 2 ^ (yat L s - q.2.2).toNat else q.2.1 / 2 ^ (q.2.2 - yat L s).toNat; (yput q.1 s w, w + 1, yat L s)) else q) = (yput q.1 s w', w' + 1, yat L s) := by
        rw [if_pos h0, hw']
      have eF : wiF L (j + 1) s q = wiF L j (s + 1) (yput q.1 s w', w' + 1, yat L s) := by
        rw [← e1]
        rfl
      have eF1 : wiF L 1 s q = (yput q.1 s w', w' + 1, yat L s) := by
        rw [← e1]
        rfl
      have eK : wiK L (j + 1) s q = ((0 ≤ q.2.1 ∧ q.2.1 < 9000000000000000000) ∧ wiK L j (s + 1) (wiF L 1 s q)) := rfl
      rw [eF, eK, eF1]
      refine ⟨⟨hwr, ih.1⟩, ih.2.1, fun i hi2 => ?_⟩
      obtain ⟨i1, i2⟩ := ih.2.2 i hi2
      by_cases his : i = s
      · subst his
        refine ⟨fun _ _ => ?_, fun h1 => ?_⟩
        · rw [i2 (.inl (by omega)), yat_pn (by omega), if_pos rfl]
          exact hn.2
        · omega
      · refine ⟨fun h1 h2 => i1 (by omega) h2, fun h1 => ?_⟩
        rw [i2 (by omega), yat_pn (by omega), if_neg his]
    · have hcs := cm_step (L := L) s
      rw [if_neg h0, Int.add_zero] at hcs
      have ih := wi_ok h j (s + 1) q (by omega) hW (by
        unfold inV at hi ⊢
        rw [hcs]
        exact hi)
      have eq : (if 0 ≤ yat L s then (let w := if q.2.2 < 0 then q.2.1 else if q.2.2 ≤ yat L s then q.2.1 * 2 ^ (yat L s - q.2.2).toNat else q.2.1 / 2 ^ (q.2.2 - yat L s).toNat; (yput q.1 s w, w + 1, yat L s)) else q) = q := if_neg h0
      have eF : wiF L (j + 1) s q = wiF L j (s + 1) (if 0 ≤ yat L s then (let w := if q.2.2 < 0 then q.2.1 else if q.2.2 ≤ yat L s then q.2.1 * 2 ^ (yat L s - q.2.2).toNat else q.2.1 / 2 ^ (q.2.2 - yat L s).toNat; (yput q.1 s w, w + 1, yat L s)) else q) := rfl
      have eF1 : wiF L 1 s q = (if 0 ≤ yat L s then (let w := if q.2.2 < 0 then q.2.1 else if q.2.2 ≤ yat L s then q.2.1 * 2 ^ (yat L s - q.2.2).toNat else q.2.1 / 2 ^ (q.2.2 - yat L s).toNat; (yput q.1 s w, w + 1, yat L s)) else q) := rfl
      have eK : wiK L (j + 1) s q = ((0 ≤ q.2.1 ∧ q.2.1 < 9000000000000000000) ∧ wiK L j (s + 1) (wiF L 1 s q)) := rfl
      rw [eF, eK, eF1, eq]
      refine ⟨⟨hwr, ih.1⟩, ih.2.1, fun i hi2 => ?_⟩
      obtain ⟨i1, i2⟩ := ih.2.2 i hi2
      refine ⟨fun h1 h2 => i1 (by
        have : i ≠ s := fun e => h0 (e ▸ h2)
        omega) h2, fun h1 => i2 ?_⟩
      rcases h1 with h1 | h1
      · exact .inl (by omega)
      · exact .inr h1
theorem lsF_len (L : List Int) : ∀ (j s : Nat) (w a : Int) (W : List Int), (lsF L j s w a W).length = W.length
  | 0, _, _, _, _ => rfl
  | j + 1, s, w, a, W => by
    by_cases h0 : 0 ≤ yat L s
    · have eF : lsF L (j + 1) s w a W = lsF L j (s + 1) (if 0 ≤ a then (if a ≤ yat L s then (w + 1) * 2 ^ (yat L s - a).toNat else (w + 1) / 2 ^ (a - yat L s).toNat) else w) (yat L s) (W.set s (if 0 ≤ a then (if a ≤ yat L s then (w + 1) * 2 ^ (yat L s - a).toNat else (w + 1) / 2 ^ (a - yat L s).toNat) else w)) := if_pos h0
      rw [eF, lsF_len L j, List.length_set]
    · have eF : lsF L (j + 1) s w a W = lsF L j (s + 1) w a W := if_neg h0
      rw [eF]
      exact lsF_len L j (s + 1) w a W
/-- words in order, all that is wanted of them -/
theorem ord_ok (h : alL L) : lsK L L.length 0 0 (-1) ∧ wiK L 26 0 (List.replicate 26 0, 0, -1) ∧ lsF L L.length 0 0 (-1) (List.replicate 26 0) = wiW L ∧ apart 2 L (lsF L L.length 0 0 (-1) (List.replicate 26 0)) := by
  have h0 : inV L 0 0 (-1) := .inl ⟨by omega, rfl, rfl⟩
  have hs := ls_ok h 26 0 0 (-1) (List.replicate 26 0) (by omega) (by simp) (by rw [if_neg (by omega)]; exact h0)
  have hw := wi_ok h 26 0 (List.replicate 26 0, 0, -1) (by omega) (by simp) h0
  have hll := lsF_len L 26 0 0 (-1) (List.replicate 26 0)
  rw [List.length_replicate] at hll
  rw [h.1]
  refine ⟨hs.1, hw.1, ?_, ?_, ?_⟩
  · have hwl : (wiW L).length = 26 := hw.2.1
    refine ext_yat (by rw [hll, hwl]) fun i hi => ?_
    rw [hwl] at hi
    have a1 := hs.2 i hi
    have a2 := hw.2.2 i hi
    have e : wiW L = (wiF L 26 0 (List.replicate 26 0, 0, -1)).1 := rfl
    rw [e]
    by_cases h1 : 0 ≤ yat L i
    · have b1 := (a1.1 (Nat.zero_le _) h1).2
      have b2 := a2.1 (Nat.zero_le _) h1
      have hp := shr_pos (yat L i)
      exact Int.eq_of_mul_eq_mul_right (by omega) (b1.trans b2.symm)
    · rw [a1.2 (.inr h1), a2.2 (.inr h1)]
  · intro s hs2 h1
    rw [h.1] at hs2
    have b1 := (hs.2 s hs2).1 (Nat.zero_le _) h1
    have hc := cm_step (L := L) s
    rw [if_pos h1] at hc
    have hle := cm_le h (s := s + 1) (by omega)
    refine ⟨b1.1, ?_⟩
    have e : vl 2 L (lsF L 26 0 0 (-1) (List.replicate 26 0)) s = cmL L s := b1.2
    rw [e]
    have e2 : vw 2 L s = shr (yat L s) := rfl
    omega
  · intro s o hs2 ho h1 h2 hne
    rw [h.1] at hs2 ho
    have b1 := (hs.2 s hs2).1 (Nat.zero_le _) h1
    have b2 := (hs.2 o ho).1 (Nat.zero_le _) h2
    have c1 := cm_step (L := L) s
    have c2 := cm_step (L := L) o
    rw [if_pos h1] at c1
    rw [if_pos h2] at c2
    have e1 : vl 2 L (lsF L 26 0 0 (-1) (List.replicate 26 0)) s = cmL L s := b1.2
    have e2 : vl 2 L (lsF L 26 0 0 (-1) (List.replicate 26 0)) o = cmL L o := b2.2
    have f1 : vw 2 L s = shr (yat L s) := rfl
    have f2 : vw 2 L o = shr (yat L o) := rfl
    rw [e1, e2]
    rcases Nat.lt_or_gt_of_ne hne with h3 | h3
    · have := cm_mono (L := L) (s := s + 1) (o - (s + 1))
      rw [show s + 1 + (o - (s + 1)) = o by omega] at this
      left
      omega
    · have := cm_mono (L := L) (s := o + 1) (s - (o + 1))
      rw [show o + 1 + (s - (o + 1)) = s by omega] at this
      right
      omega
theorem shF_cm (hL : L.length = 26) : shF 2 L = cmL L 26 := by
  rw [shF_sF, hL]
  rfl
end
theorem go_alL {C : List Int} (hC : C.length = 26) (hnn : ∀ x ∈ C, 0 ≤ x) (h1 : 1 ≤ abF C) : alL (goL C 26) := by
  have ha := go_al hC hnn h1
  have hr := fun (s : Nat) (hs : s < 26) => goL_rng hC hnn h1 hs
  have hl : (goL C 26).length = 26 := by rw [go_in hC hnn h1, inL_len]
  have e : ∀ s : Nat, s ≤ 26 → cmL (goL C 26) s = cmS C (goL C 26) s := fun s hs => by
    unfold cmL cmS
    refine sF_congr _ _ fun i _ hi => ?_
    have := (hr i (by omega)).2.2
    by_cases h2 : 0 < yat C i
    · rw [if_pos h2, if_pos (this.mpr h2)]
    · rw [if_neg h2, if_neg (fun h => h2 (this.mp h))]
  refine ⟨hl, fun x hx => ?_, fun s hs h2 => ?_, ?_⟩
  · obtain ⟨s, hs, rfl⟩ := List.getElem_of_mem hx
    rw [hl] at hs
    have := (hr s hs).2.1
    rw [yat_n, getD_get (by rw [hl]; exact hs)] at this
    exact this
  · rw [e s (by omega)]
    exact ha.1 s hs ((hr s hs).2.2.mp h2)
  · rw [e 26 (Nat.le_refl _)]
    exact ha.2
