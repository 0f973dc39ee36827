/-! the pure part: the class's line and the reference's row -/
theorem wl_n {W Ln : List Int} (i : Nat) : wl W Ln (i : Int) = yat W (yat Ln i) := rfl
theorem ftJ_spec (W Ln : List Int) : ∀ (j q : Nat), q + j + 2 = Ln.length → (∀ i : Nat, q ≤ i → i + 1 < ftJ W Ln j q → yat W (yat Ln ((i + 2 : Nat) : Int)) < yat W (yat Ln i)) ∧ (ftJ W Ln j q + 1 = Ln.length ∨ yat W (yat Ln ((ftJ W Ln j q - 1 : Nat) : Int)) ≤ yat W (yat Ln ((ftJ W Ln j q + 1 : Nat) : Int)))
  | 0, q, h => by
    have e : ftJ W Ln 0 q = Ln.length - 1 := rfl
    rw [e]
    exact ⟨fun i h1 h2 => by omega, .inl (by omega)⟩
  | j + 1, q, h => by
    have e : ftJ W Ln (j + 1) q = if wl W Ln q ≤ wl W Ln ((q : Int) + 2) then q + 1 else ftJ W Ln j (q + 1) := rfl
    rw [e]
    by_cases hc : wl W Ln q ≤ wl W Ln ((q : Int) + 2)
    · rw [if_pos hc]
      refine ⟨fun i h1 h2 => by omega, .inr ?_⟩
      rw [show q + 1 - 1 = q by omega, show ((q + 1 + 1 : Nat) : Int) = (q : Int) + 2 by omega]
      exact hc
    · rw [if_neg hc]
      obtain ⟨i1, i2⟩ := ftJ_spec W Ln j (q + 1) (by omega)
      refine ⟨fun i h1 h2 => ?_, i2⟩
      by_cases hi : i = q
      · rw [hi, show ((q + 2 : Nat) : Int) = (q : Int) + 2 by omega]
        exact Int.not_le.mp hc
      · exact i1 i (by omega) h2
theorem iqF_spec (W L : List Int) : ∀ (j q : Nat), q + 1 < L.length → L.length ≤ q + j + 2 → (∀ i : Nat, q ≤ i → i < iqF W L j q → yat W (yat L ((i + 2 : Nat) : Int)) < yat W (yat L i)) ∧ (iqF W L j q + 2 = L.length ∨ yat W (yat L (iqF W L j q : Nat)) ≤ yat W (yat L ((iqF W L j q + 2 : Nat) : Int)))
  | 0, q, h1, h2 => by
    have e : iqF W L 0 q = q := rfl
    rw [e]
    exact ⟨fun i h3 h4 => by omega, .inl (by omega)⟩
  | j + 1, q, h1, h2 => by
    unfold iqF
    by_cases hc : q + 2 < L.length ∧ yat W (yat L ((q + 2 : Nat) : Int)) < yat W (yat L q)
    · rw [if_pos hc]
      obtain ⟨i1, i2⟩ := iqF_spec W L j (q + 1) (by omega) (by omega)
      refine ⟨fun i h3 h4 => ?_, i2⟩
      by_cases hi : i = q
      · rw [hi]
        exact hc.2
      · exact i1 i (by omega) h4
    · rw [if_neg hc]
      refine ⟨fun i h3 h4 => by omega, ?_⟩
      by_cases h5 : q + 2 = L.length
      · exact .inl h5
      · refine .inr (Int.not_lt.mp fun h6 => hc ⟨by omega, h6⟩)
theorem bhF_spec (W Ln : List Int) (w : Int) : ∀ b : Nat, (∀ i : Nat, bhF W Ln w b ≤ i → i < b → yat W (yat Ln i) < w) ∧ (bhF W Ln w b = 0 ∨ w ≤ yat W (yat Ln ((bhF W Ln w b - 1 : Nat) : Int)))
  | 0 => ⟨fun i h1 h2 => by omega, .inl rfl⟩
  | b + 1 => by
    unfold bhF
    by_cases hc : wl W Ln b < w
    · rw [if_pos hc]
      obtain ⟨i1, i2⟩ := bhF_spec W Ln w b
      refine ⟨fun i h1 h2 => ?_, i2⟩
      by_cases hi : i = b
      · rw [hi]; exact hc
      · exact i1 i h1 (by omega)
    · rw [if_neg hc]
      exact ⟨fun i h1 h2 => by omega, .inr (by rw [show b + 1 - 1 = b by omega]; exact Int.not_lt.mp hc)⟩
theorem itF_spec (W L : List Int) (w : Int) : ∀ b : Nat, (∀ i : Nat, itF W L w b ≤ i → i < b → yat W (yat L i) < w) ∧ (itF W L w b = 0 ∨ w ≤ yat W (yat L ((itF W L w b - 1 : Nat) : Int)))
  | 0 => ⟨fun i h1 h2 => by omega, .inl rfl⟩
  | b + 1 => by
    unfold itF
    by_cases hc : yat W (yat L b) < w
    · rw [if_pos hc]
      obtain ⟨i1, i2⟩ := itF_spec W L w b
      refine ⟨fun i h1 h2 => ?_, i2⟩
      by_cases hi : i = b
      · rw [hi]; exact hc
      · exact i1 i h1 (by omega)
    · rw [if_neg hc]
      exact ⟨fun i h1 h2 => by omega, .inr (by rw [show b + 1 - 1 = b by omega]; exact Int.not_lt.mp hc)⟩
theorem lsD_get : ∀ {A : List Int} (p : Int), A ≠ [] → lsD A p = A.getD (A.length - 1) 0
  | [], _, h => absurd rfl h
  | [a], _, _ => rfl
  | a :: b :: A, p, _ => by
    have := lsD_get (A := b :: A) a (by simp)
    show lsD (b :: A) a = _
    rw [this]
    rfl
theorem dsc_of : ∀ (l : List Int), (∀ i : Nat, i + 2 < l.length → l.getD (i + 2) 0 < l.getD i 0) → dsc l
  | [], _ => trivial
  | [_], _ => trivial
  | [_, _], _ => trivial
  | a :: b :: c :: l, h => ⟨h 0 (by simp), dsc_of (b :: c :: l) (fun i hi => h (i + 1) (by simp at hi ⊢; omega))⟩
theorem er_two {L : List Int} {q : Nat} (hq : q + 1 < L.length) : (L.eraseIdx (q + 1)).eraseIdx q = L.take q ++ L.drop (q + 2) := by
  rw [List.eraseIdx_eq_take_drop_succ, List.eraseIdx_eq_take_drop_succ]
  have e1 : (L.take (q + 1) ++ L.drop (q + 1 + 1)).take q = L.take q := by
    rw [List.take_append_of_le_length (by rw [List.length_take]; omega), List.take_take, show min q (q + 1) = q by omega]
  have e2 : (L.take (q + 1) ++ L.drop (q + 1 + 1)).drop (q + 1) = L.drop (q + 2) := by
    rw [List.drop_append, List.length_take, show min (q + 1) L.length = q + 1 by omega, Nat.sub_self, List.drop_zero, List.drop_eq_nil_of_le (by rw [List.length_take]; omega), List.nil_append]
  rw [e1, e2]
/-- the row in pieces -/
theorem row_cut {L : List Int} {q t : Nat} (hq : q + 1 < L.length) (ht : t ≤ q) : L = L.take t ++ ((L.take q).drop t ++ yat L q :: yat L ((q + 1 : Nat) : Int) :: L.drop (q + 2)) ∧ ∀ m, sh ((L.eraseIdx (q + 1)).eraseIdx q) t m = L.take t ++ m :: ((L.take q).drop t ++ L.drop (q + 2)) := by
  have e1 : (L.take q).take t = L.take t := by rw [List.take_take, show min t q = t by omega]
  constructor
  · rw [← drop_yat (xs := L) (k := q + 1) (by omega), ← drop_yat (xs := L) (k := q) (by omega), ← List.append_assoc, ← e1, List.take_append_drop, List.take_append_drop]
  · intro m
    unfold sh
    rw [er_two hq, List.take_append_of_le_length (by rw [List.length_take]; omega), e1, List.drop_append_of_le_length (by rw [List.length_take]; omega)]
section
variable {n : Nat} {O' W Pa Ln : List Int} {next : Nat} {Q : jmT}
/-- class and reference while trees of a row are joined -/
def oR (n : Nat) (O' W Pa Ln : List Int) (next : Nat) (Q : jmT) : Prop :=
  (Pa.length = W.length ∧ n ≤ W.length ∧ next + n = 26 + W.length ∧ Q.1.length = 52 ∧ Q.2.1.length = 52 ∧ ∀ k : Nat, next ≤ k → yat Q.2.1 k = 0) ∧ (Ln.Nodup ∧ ∀ x ∈ Ln, 0 ≤ x ∧ x < W.length) ∧ Q.2.2 = Ln.map (fun x => ((ph 25 n O' x.toNat : Nat) : Int)) ∧ (∀ i : Nat, i < W.length → yat Q.1 (ph 25 n O' i) = yat W i) ∧ (∀ i : Nat, i < W.length → ((i : Int) ∈ Ln ∧ yat Pa i = -1 ∧ yat Q.2.1 (ph 25 n O' i) = 0) ∨ ((i : Int) ∉ Ln ∧ ∃ p : Nat, i < p ∧ p < W.length ∧ n ≤ p ∧ yat Pa i = p ∧ yat Q.2.1 (ph 25 n O' i) = ph 25 n O' p)) ∧ (∀ i : Nat, i < W.length → ph 25 n O' i < next) ∧ ∀ i j : Nat, i < W.length → j < W.length → ph 25 n O' i = ph 25 n O' j → i = j
theorem or_at (h : oR n O' W Pa Ln next Q) {i : Nat} (hi : i < Ln.length) : ∃ x : Nat, yat Ln i = x ∧ x < W.length ∧ (x : Int) ∈ Ln ∧ yat Q.2.2 i = ph 25 n O' x ∧ yat Q.1 (yat Q.2.2 i) = yat W (yat Ln i) := by
  obtain ⟨h1, ⟨h2, h3⟩, h4, h5, h6⟩ := h
  have hm := yat_mem (W := Ln) hi
  have hr := h3 _ hm
  obtain ⟨x, hx⟩ := Int.eq_ofNat_of_zero_le hr.1
  have e : yat Q.2.2 i = ph 25 n O' x := by
    rw [h4, yat_n, getD_get (by rw [List.length_map]; exact hi), List.getElem_map]
    have : Ln[i] = (x : Int) := by rw [← hx, yat_n, getD_get hi]
    rw [this, Int.toNat_natCast]
  rw [hx] at hm hr
  refine ⟨x, hx, by omega, hm, e, ?_⟩
  rw [e, hx]
  exact h5 x (by omega)
/-- both take the same two, and put them at the same place -/
theorem or_pick (h : oR n O' W Pa Ln next Q) (hl : 2 ≤ Ln.length) : iqF Q.1 Q.2.2 Q.2.2.length 0 = gq W Ln ∧ iwF Q.1 Q.2.2 (gq W Ln) = jiW W Ln (gq W Ln) ∧ itF (yput Q.1 next (jiW W Ln (gq W Ln))) (irF Q.2.2 (gq W Ln)) (jiW W Ln (gq W Ln)) (gq W Ln) = bhF (W ++ [jiW W Ln (gq W Ln)]) (jiR Ln (gq W Ln)) (jiW W Ln (gq W Ln)) (gq W Ln) := by
  have hlen : Q.2.2.length = Ln.length := by rw [h.2.2.1, List.length_map]
  have hg := gq_lt (W := W) hl
  have hs := ftJ_spec W Ln (Ln.length - 2) 0 (by omega)
  rw [← hg.1] at hs
  have hr := iqF_rng Q.1 Q.2.2 Q.2.2.length 0 (by omega)
  have hi := iqF_spec Q.1 Q.2.2 Q.2.2.length 0 (by omega) (by omega)
  have ev : ∀ k : Nat, k < Ln.length → yat Q.1 (yat Q.2.2 k) = yat W (yat Ln k) := fun k hk => by
    obtain ⟨x, h1, h2, h3, h4, h5⟩ := or_at h hk
    exact h5
  have e1 : iqF Q.1 Q.2.2 Q.2.2.length 0 = gq W Ln := by
    obtain ⟨a, ha⟩ : ∃ a, a = iqF Q.1 Q.2.2 Q.2.2.length 0 := ⟨_, rfl⟩
    rw [← ha] at hr hi ⊢
    rcases Nat.lt_trichotomy a (gq W Ln) with h1 | h1 | h1
    · have h2 := hs.1 a (Nat.zero_le _) (by omega)
      rcases hi.2 with h3 | h3
      · omega
      · rw [ev _ (by omega), ev _ (by omega)] at h3
        omega
    · exact h1
    · have h2 := hi.1 (gq W Ln) (Nat.zero_le _) h1
      rw [ev _ (by omega), ev _ (by omega)] at h2
      rcases hs.2 with h3 | h3
      · omega
      · rw [show gq W Ln + 1 - 1 = gq W Ln by omega, show gq W Ln + 1 + 1 = gq W Ln + 2 by omega] at h3
        omega
  refine ⟨e1, ?_, ?_⟩
  · unfold iwF jiW
    rw [ev _ (by omega), ev _ (by omega)]
    rfl
  · obtain ⟨w, hw⟩ : ∃ w, w = jiW W Ln (gq W Ln) := ⟨_, rfl⟩
    rw [← hw]
    have ev2 : ∀ k : Nat, k < gq W Ln → yat (yput Q.1 next w) (yat (irF Q.2.2 (gq W Ln)) k) = yat (W ++ [w]) (yat (jiR Ln (gq W Ln)) k) := fun k hk => by
      obtain ⟨x, h1, h2, h3, h4, h5⟩ := or_at h (i := k) (by omega)
      rw [irF_at (by omega), if_pos hk]
      have e3 : yat (jiR Ln (gq W Ln)) k = yat Ln k := by
        have := irF_at (L := Ln) (q := gq W Ln) (i := k) (by omega)
        rw [if_pos hk] at this
        exact this
      rw [e3, h1, yat_ap1 h2, h4, yat_ne (by have := h.2.2.2.2.2.1 x h2; omega)]
      exact h.2.2.2.1 x h2
    have s1 := itF_spec (yput Q.1 next w) (irF Q.2.2 (gq W Ln)) w (gq W Ln)
    have s2 := bhF_spec (W ++ [w]) (jiR Ln (gq W Ln)) w (gq W Ln)
    have l1 := itF_le (yput Q.1 next w) (irF Q.2.2 (gq W Ln)) w (gq W Ln)
    have l2 := bhF_le (W ++ [w]) (jiR Ln (gq W Ln)) w (gq W Ln)
    obtain ⟨a, ha⟩ : ∃ a, a = itF (yput Q.1 next w) (irF Q.2.2 (gq W Ln)) w (gq W Ln) := ⟨_, rfl⟩
    obtain ⟨b, hb⟩ : ∃ b, b = bhF (W ++ [w]) (jiR Ln (gq W Ln)) w (gq W Ln) := ⟨_, rfl⟩
    rw [← ha] at s1 l1 ⊢
    rw [← hb] at s2 l2 ⊢
    rcases Nat.lt_trichotomy a b with h1 | h1 | h1
    · rcases s2.2 with h3 | h3
      · omega
      · have h2 := s1.1 (b - 1) (by omega) (by omega)
        rw [ev2 _ (by omega)] at h2
        omega
    · exact h1
    · rcases s1.2 with h3 | h3
      · omega
      · have h2 := s2.1 (a - 1) (by omega) (by omega)
        rw [ev2 _ (by omega)] at h3
        omega
end
