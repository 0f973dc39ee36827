/-! the pure part: rounds of joining in a row -/
section
variable {n : Nat} {O' W Pa Ln : List Int} {next : Nat} {Q : jmT}
theorem nd_mid {A B : List Int} {m : Int} : (A ++ m :: B).Nodup ↔ m ∉ A ++ B ∧ (A ++ B).Nodup := by
  rw [List.perm_middle.nodup_iff, List.nodup_cons]
theorem er_map (f : Int → Int) : ∀ (l : List Int) (i : Nat), (l.map f).eraseIdx i = (l.eraseIdx i).map f
  | [], _ => rfl
  | a :: l, 0 => rfl
  | a :: l, i + 1 => by
    show f a :: (l.map f).eraseIdx i = f a :: (l.eraseIdx i).map f
    rw [er_map f l i]
theorem or_step (h : oR n O' W Pa Ln next Q) (hl : 2 ≤ Ln.length) (hn : next < 52) : oR n O' (W ++ [jiW W Ln (gq W Ln)]) (jiP W Pa Ln (gq W Ln)) (jiL W Ln (gq W Ln)) (next + 1) (isF next Q (iqF Q.1 Q.2.2 Q.2.2.length 0)) ∧ (∀ i : Nat, i < W.length → (i : Int) ∉ Ln → yat (jiP W Pa Ln (gq W Ln)) i = yat Pa i) ∧ (∀ i : Nat, i < W.length → (i : Int) ∉ Ln → (i : Int) ∉ jiL W Ln (gq W Ln)) ∧ yat (jiP W Pa Ln (gq W Ln)) (yat Ln (gq W Ln)) = W.length ∧ yat (jiP W Pa Ln (gq W Ln)) (yat Ln ((gq W Ln + 1 : Nat) : Int)) = W.length ∧ yat Ln (gq W Ln) ∉ jiL W Ln (gq W Ln) ∧ yat Ln ((gq W Ln + 1 : Nat) : Int) ∉ jiL W Ln (gq W Ln) := by
  obtain ⟨k1, k2, k3⟩ := or_pick h hl
  have hg := gq_lt (W := W) hl
  have h0 := h
  obtain ⟨a, a1, a2, a3, a4, a5⟩ := or_at h (i := gq W Ln) (by omega)
  obtain ⟨b, b1, b2, b3, b4, b5⟩ := or_at h (i := gq W Ln + 1) (by omega)
  obtain ⟨⟨g1, g2, g3, g4, g5, g6⟩, ⟨g7, g8⟩, g9, g10, g11, g12, g13⟩ := h
  obtain ⟨w, hw⟩ : ∃ w, w = jiW W Ln (gq W Ln) := ⟨_, rfl⟩
  obtain ⟨q, hq⟩ : ∃ q, q = gq W Ln := ⟨_, rfl⟩
  rw [← hw, ← hq] at k2 k3
  rw [← hw, ← hq]
  rw [← hq] at k1 hg a1 a4 b1 b4
  rw [k1]
  obtain ⟨t, ht⟩ : ∃ t, t = bhF (W ++ [w]) (jiR Ln q) w q := ⟨_, rfl⟩
  have htq : t ≤ q := by rw [ht]; exact bhF_le _ _ _ _
  rw [← ht] at k3
  have hcut := row_cut (L := Ln) (q := q) (t := t) (by omega) htq
  rw [a1, b1] at hcut
  have eL : jiL W Ln q = sh ((Ln.eraseIdx (q + 1)).eraseIdx q) t W.length := by
    unfold jiL
    have hwq : w = jiW W Ln q := by rw [hq]; exact hw
    rw [← hwq, ← ht]
    rfl
  have eL2 := (hcut.2 (W.length : Nat))
  rw [← eL] at eL2
  obtain ⟨A1, hA1⟩ : ∃ A1, A1 = Ln.take t := ⟨_, rfl⟩
  obtain ⟨A2, hA2⟩ : ∃ A2, A2 = (Ln.take q).drop t := ⟨_, rfl⟩
  obtain ⟨A3, hA3⟩ : ∃ A3, A3 = Ln.drop (q + 2) := ⟨_, rfl⟩
  have hcut1 := hcut.1
  rw [← hA1, ← hA2, ← hA3] at hcut1 eL2
  have hnd := g7
  rw [hcut1, ← List.append_assoc, nd_mid] at hnd
  have hnd2 := hnd.2
  rw [nd_mid] at hnd2
  have hab : a ≠ b := by
    intro e
    have := hnd.1
    rw [e] at this
    simp at this
  have hmem : ∀ x : Int, x ∈ jiL W Ln q ↔ x = W.length ∨ (x ∈ Ln ∧ x ≠ a ∧ x ≠ b) := fun x => by
    rw [eL2, hcut1]
    simp only [List.mem_append, List.mem_cons]
    have n1 := hnd.1
    have n2 := hnd2.1
    simp only [List.mem_append, List.mem_cons, not_or] at n1 n2
    constructor
    · rintro (h1 | h1 | h1 | h1)
      · exact .inr ⟨.inl h1, fun e => n1.1.1 (e ▸ h1), fun e => n2.1.1 (e ▸ h1)⟩
      · exact .inl h1
      · exact .inr ⟨.inr (.inl h1), fun e => n1.1.2 (e ▸ h1), fun e => n2.1.2 (e ▸ h1)⟩
      · exact .inr ⟨.inr (.inr (.inr (.inr h1))), fun e => n1.2.2 (e ▸ h1), fun e => n2.2 (e ▸ h1)⟩
    · rintro (h1 | ⟨h1 | h1 | h1 | h1 | h1, h2, h3⟩)
      · exact .inr (.inl h1)
      · exact .inl h1
      · exact .inr (.inr (.inl h1))
      · exact absurd h1 h2
      · exact absurd h1 h3
      · exact .inr (.inr (.inr h1))
  have hphm : ph 25 n O' W.length = next := by
    rw [ph_j g2]
    omega
  have hwl : (W ++ [w]).length = W.length + 1 := by simp
  have hpal : (Pa ++ [-1]).length = W.length + 1 := by simp [g1]
  have ePa : jiP W Pa Ln q = yput (yput (Pa ++ [-1]) (a : Nat) W.length) (b : Nat) W.length := by
    unfold jiP
    rw [a1, b1]
  have hPa : ∀ i : Nat, yat (jiP W Pa Ln q) i = if i = b then (W.length : Int) else if i = a then (W.length : Int) else yat (Pa ++ [-1]) i := fun i => by
    rw [ePa, yat_pn (by rw [yput_len]; omega)]
    split
    · rfl
    · rw [yat_pn (by omega)]
  have e1 : (isF next Q q).1 = yput Q.1 next w := by
    unfold isF
    rw [k2]
  have e2 : (isF next Q q).2.1 = yput (yput Q.2.1 (ph 25 n O' a : Nat) next) (ph 25 n O' b : Nat) next := by
    unfold isF
    rw [a4, b4]
  have e3 : (isF next Q q).2.2 = sh (irF Q.2.2 q) t next := by
    unfold isF
    rw [k2, k3]
  have hnl : ∀ i : Nat, i < W.length → (i : Int) ∉ Ln → i ≠ a ∧ i ≠ b := fun i _ hi => ⟨fun e => hi (by rw [e]; exact a3), fun e => hi (by rw [e]; exact b3)⟩
  refine ⟨⟨⟨?_, by omega, by omega, ?_, ?_, fun k hk => ?_⟩, ⟨?_, fun x hx => ?_⟩, ?_, fun i hi => ?_, fun i hi => ?_, fun i hi => ?_, fun i j hi hj he => ?_⟩, fun i hi hin => ?_, fun i hi hin hx => ?_, ?_, ?_, ?_, ?_⟩
  · rw [jiP_len, hwl, g1]
  · rw [e1, yput_len]; exact g4
  · rw [e2, yput_len, yput_len]; exact g5
  · have := g12 a a2
    have := g12 b b2
    rw [e2, yat_ne (by omega), yat_ne (by omega)]
    exact g6 k (by omega)
  · rw [eL2, nd_mid]
    refine ⟨fun hx => ?_, hnd2.2.sublist (by simp)⟩
    have h1 : ((W.length : Nat) : Int) ∈ Ln := by
      rw [hcut1]
      simp only [List.mem_append, List.mem_cons] at hx ⊢
      rcases hx with h1 | h1 | h1
      · exact .inl h1
      · exact .inr (.inl h1)
      · exact .inr (.inr (.inr (.inr h1)))
    have := g8 _ h1
    omega
  · rw [hwl]
    rcases (hmem x).mp hx with h1 | h1
    · omega
    · have := g8 x h1.1
      omega
  · rw [e3, g9, eL]
    unfold irF sh
    rw [er_map, er_map, ← List.map_take, ← List.map_drop, List.map_append, List.map_cons, Int.toNat_natCast, hphm]
  · rw [e1]
    by_cases him : i = W.length
    · subst him
      rw [hphm, yat_pu (by omega), yat_ap2]
    · have := g12 i (by omega)
      rw [yat_ne (by omega), yat_ap1 (by omega)]
      exact g10 i (by omega)
  · rw [hPa, e2]
    by_cases him : i = W.length
    · subst him
      refine .inl ⟨(hmem _).mpr (.inl rfl), ?_, ?_⟩
      · rw [if_neg (by omega), if_neg (by omega), ← g1, yat_ap2]
      · have := g12 a a2
        have := g12 b b2
        rw [hphm, yat_ne (by omega), yat_ne (by omega)]
        exact g6 next (Nat.le_refl _)
    · have him' : i < W.length := by omega
      by_cases hib : i = b
      · subst hib
        refine .inr ⟨fun hx => ?_, W.length, by omega, by omega, g2, by rw [if_pos rfl], ?_⟩
        · rcases (hmem _).mp hx with h1 | h1
          · omega
          · exact h1.2.2 rfl
        · have := g12 i b2
          rw [yat_pu (by rw [yput_len]; omega), hphm]
      · have hpb : ph 25 n O' i ≠ ph 25 n O' b := fun e => hib (g13 i b him' b2 e)
        by_cases hia : i = a
        · subst hia
          refine .inr ⟨fun hx => ?_, W.length, by omega, by omega, g2, by rw [if_neg hib, if_pos rfl], ?_⟩
          · rcases (hmem _).mp hx with h1 | h1
            · omega
            · exact h1.2.1 rfl
          · have := g12 i a2
            rw [yat_ne (by omega), yat_pu (by omega), hphm]
        · have hpa : ph 25 n O' i ≠ ph 25 n O' a := fun e => hia (g13 i a him' a2 e)
          rw [if_neg hib, if_neg hia, yat_ap1 (by omega), yat_ne (by omega), yat_ne (by omega)]
          rcases g11 i him' with h1 | ⟨h1, p, h2, h3, h4⟩
          · exact .inl ⟨(hmem _).mpr (.inr ⟨h1.1, by omega, by omega⟩), h1.2⟩
          · refine .inr ⟨fun hx => ?_, p, h2, by omega, h4⟩
            rcases (hmem _).mp hx with h5 | h5
            · omega
            · exact h1 h5.1
  · by_cases him : i = W.length
    · subst him
      omega
    · have := g12 i (by omega)
      omega
  · rw [hwl] at hi hj
    by_cases him : i = W.length
    · by_cases hjm : j = W.length
      · omega
      · have := g12 j (by omega)
        rw [him, hphm] at he
        omega
    · by_cases hjm : j = W.length
      · have := g12 i (by omega)
        rw [hjm, hphm] at he
        omega
      · exact g13 i j (by omega) (by omega) he
  · have := hnl i hi hin
    rw [hPa, if_neg this.2, if_neg this.1, yat_ap1 (by omega)]
  · rcases (hmem _).mp hx with h1 | h1
    · omega
    · exact hin h1.1
  · rw [a1, hPa, if_neg hab, if_pos rfl]
  · rw [b1, hPa, if_pos rfl]
  · rw [a1]
    intro hx
    rcases (hmem _).mp hx with h1 | h1
    · omega
    · exact h1.2.1 rfl
  · rw [b1]
    intro hx
    rcases (hmem _).mp hx with h1 | h1
    · omega
    · exact h1.2.2 rfl
end
