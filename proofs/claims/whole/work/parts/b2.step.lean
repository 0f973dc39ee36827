/-! the pure part: where reading comes into step again -/
/-- the sign s is matched -/
def mtc (L W S : List Int) (e : Int) (s : Nat) : Prop := s < L.length ∧ 0 ≤ yat L s ∧ e + yat L s ≤ S.length ∧ nv S e (yat L s).toNat = yat W s
theorem waF_spec {L W S : List Int} (hS : bitR S) (hw : wok L W) (e : Int) : ∀ (j s : Nat), s + j = L.length → (waF L W S e j s = -1 ∧ ∀ i : Nat, s ≤ i → ¬ mtc L W S e i) ∨ ∃ i : Nat, waF L W S e j s = i ∧ mtc L W S e i
  | 0, s, hs => by
    refine .inl ⟨rfl, fun i hi h => ?_⟩
    have := h.1
    omega
  | j + 1, s, hs => by
    unfold waF
    by_cases h : (0 ≤ yat L s ∧ e + yat L s ≤ (S.length : Int)) ∧ wmF L W S e s (yat L s).toNat 0 = true
    · rw [if_pos h]
      exact .inr ⟨s, rfl, by omega, h.1.1, h.1.2, (wm_nv hS hw (by omega) h.1.1).mp h.2⟩
    · rw [if_neg h]
      rcases waF_spec hS hw e j (s + 1) (by omega) with h1 | h1
      · refine .inl ⟨h1.1, fun i hi hm => ?_⟩
        by_cases hi2 : i = s
        · subst hi2
          exact h ⟨⟨hm.2.1, hm.2.2.1⟩, (wm_nv hS hw (by omega) hm.2.1).mpr hm.2.2.2⟩
        · exact h1.2 i (by omega) hm
      · exact .inr h1
theorem mtc_one {L W S : List Int} (hS : bitR S) (ha : apart 2 L W) (hL : ∀ x ∈ L, x ≤ 25) {e : Int} {s o : Nat} (h1 : mtc L W S e s) (h2 : mtc L W S e o) : s = o := by
  have key : ∀ {s o : Nat}, mtc L W S e s → mtc L W S e o → yat L s ≤ yat L o → s = o := fun {s o} h1 h2 hle => by
    refine Decidable.byContradiction fun hne => ?_
    refine ap_no (by omega) ha hL h1.1 h2.1 hne h1.2.1 hle ?_
    have := nv_drop hS e (yat L s).toNat (yat L o - yat L s).toNat
    rw [show (yat L s).toNat + (yat L o - yat L s).toNat = (yat L o).toNat by have := h1.2.1; omega, h2.2.2.2, h1.2.2.2] at this
    exact this
  by_cases h : yat L s ≤ yat L o
  · exact key h1 h2 h
  · exact (key h2 h1 (by omega)).symm
/-- the next end -/
def nxM (L W S : List Int) (e : Int) : Int := if waF L W S e L.length 0 < 0 then -1 else e + yat L (waF L W S e L.length 0)
theorem nx_spec {L W S : List Int} (hS : bitR S) (hw : wok L W) (e : Int) : (nxM L W S e = -1 ∧ ∀ i : Nat, ¬ mtc L W S e i) ∨ ∃ i : Nat, nxM L W S e = e + yat L i ∧ mtc L W S e i := by
  unfold nxM
  rcases waF_spec hS hw e L.length 0 (by omega) with h | ⟨i, h, hm⟩
  · rw [h.1]
    exact .inl ⟨rfl, fun i => h.2 i (Nat.zero_le _)⟩
  · rw [h, if_neg (by omega)]
    exact .inr ⟨i, rfl, hm⟩
theorem ne_nx {L W S : List Int} (hS : bitR S) (hw : wok L W) (hL : ∀ x ∈ L, x ≤ 25) {e : Int} (he : 0 ≤ e ∧ e ≤ S.length) : neF L W S e (-1) = nxM L W S e := by
  unfold neF nxM
  rw [sa_wa hS hw hL he]
theorem ne_nxt {L W S : List Int} (hS : bitR S) (hw : wok L W) (hL : ∀ x ∈ L, x ≤ 25) {e t : Int} (he : 0 ≤ e ∧ e ≤ S.length) (ht : 0 ≤ t ∧ t < S.length) : neF L W S e t = nxM L W (fpF S t) e := by
  unfold neF nxM
  rw [sa_wat hS hw hL he ht]
/-- no empty word -/
abbrev no0 (L : List Int) : Prop := ∀ s : Nat, s < L.length → yat L s ≠ 0
theorem nx_gt {L W S : List Int} (hS : bitR S) (hw : wok L W) (h0 : no0 L) (e : Int) : nxM L W S e = -1 ∨ (e < nxM L W S e ∧ nxM L W S e ≤ S.length) := by
  rcases nx_spec hS hw e with h | ⟨i, h, hm⟩
  · exact .inl h.1
  · have := h0 i hm.1
    have := hm.2.1
    have := hm.2.2.1
    omega
/-- ends from a place on -/
def chP (L W S : List Int) : Nat → Int → Int → Prop
  | 0, _, _ => False
  | j + 1, a, e => 0 ≤ nxM L W S a ∧ (e = nxM L W S a ∨ chP L W S j (nxM L W S a) e)
section
variable {L W S : List Int}
theorem chP_gt (hS : bitR S) (hw : wok L W) (h0 : no0 L) {e : Int} : ∀ (j : Nat) (a : Int), chP L W S j a e → a < e ∧ e ≤ S.length
  | 0, a, h => h.elim
  | j + 1, a, h => by
    unfold chP at h
    have := nx_gt hS hw h0 a
    rcases h.2 with h1 | h1
    · omega
    · have := chP_gt hS hw h0 j _ h1
      omega
theorem chP_fuel (hS : bitR S) (hw : wok L W) (h0 : no0 L) {e : Int} : ∀ (j k : Nat) (a : Int), 0 ≤ a → e - a ≤ j → e - a ≤ k → (chP L W S j a e ↔ chP L W S k a e)
  | 0, k, a, ha, h1, h2 => by
    constructor
    · intro h
      exact h.elim
    · intro h
      have := chP_gt hS hw h0 k a h
      omega
  | j + 1, 0, a, ha, h1, h2 => by
    constructor
    · intro h
      have := chP_gt hS hw h0 (j + 1) a h
      omega
    · intro h
      exact h.elim
  | j + 1, k + 1, a, ha, h1, h2 => by
    unfold chP
    have := nx_gt hS hw h0 a
    constructor
    · rintro ⟨h3, h4⟩
      exact ⟨h3, h4.imp id (chP_fuel hS hw h0 j k _ h3 (by omega) (by omega)).mp⟩
    · rintro ⟨h3, h4⟩
      exact ⟨h3, h4.imp id (chP_fuel hS hw h0 j k _ h3 (by omega) (by omega)).mpr⟩
/-- an end behind a place -/
def enP (L W S : List Int) (a e : Int) : Prop := chP L W S (e - a).toNat a e
theorem enP_step (hS : bitR S) (hw : wok L W) (h0 : no0 L) {a e : Int} (ha : 0 ≤ a) : enP L W S a e ↔ 0 ≤ nxM L W S a ∧ (e = nxM L W S a ∨ enP L W S (nxM L W S a) e) := by
  unfold enP
  have hg := nx_gt hS hw h0 a
  by_cases h : a < e
  · rw [chP_fuel hS hw h0 (e - a).toNat ((e - a).toNat + 1) a ha (by omega) (by omega), chP]
    constructor
    · rintro ⟨h3, h4⟩
      exact ⟨h3, h4.imp id (chP_fuel hS hw h0 _ _ _ h3 (by omega) (by omega)).mp⟩
    · rintro ⟨h3, h4⟩
      exact ⟨h3, h4.imp id (chP_fuel hS hw h0 _ _ _ h3 (by omega) (by omega)).mpr⟩
  · constructor
    · intro h1
      have := chP_gt hS hw h0 _ _ h1
      omega
    · rintro ⟨h3, h4⟩
      rcases h4 with h4 | h4
      · omega
      · have := chP_gt hS hw h0 _ _ h4
        omega
theorem enP_gt (hS : bitR S) (hw : wok L W) (h0 : no0 L) {a e : Int} (h : enP L W S a e) : a < e ∧ e ≤ S.length := chP_gt hS hw h0 _ _ h
theorem enP_trans (hS : bitR S) (hw : wok L W) (h0 : no0 L) {e : Int} : ∀ (j : Nat) (a b : Int), 0 ≤ a → b - a ≤ j → enP L W S a b → (enP L W S a e ↔ e = b ∨ enP L W S b e ∨ (e < b ∧ enP L W S a e))
  | j, a, b, ha, hj, hb => by
    have hs := @enP_step L W S hS hw h0 a b ha
    have hs2 := @enP_step L W S hS hw h0 a e ha
    have hg := nx_gt hS hw h0 a
    have hb2 := hs.mp hb
    rcases hb2.2 with h1 | h1
    · rw [hs2, ← h1]
      constructor
      · rintro ⟨h2, h3⟩
        rcases h3 with h3 | h3
        · exact .inl h3
        · exact .inr (.inl h3)
      · rintro (h3 | h3 | ⟨h3, h4⟩)
        · exact ⟨by omega, .inl h3⟩
        · exact ⟨by omega, .inr h3⟩
        · exact h4
    · have hg2 := enP_gt hS hw h0 h1
      have hgb := enP_gt hS hw h0 hb
      match j, hj with
      | 0, hj => omega
      | j + 1, hj =>
        have ih := enP_trans hS hw h0 (e := e) j (nxM L W S a) b hb2.1 (by omega) h1
        constructor
        · intro h2
          rcases (hs2.mp h2).2 with h3 | h3
          · exact .inr (.inr ⟨by omega, h2⟩)
          · rcases ih.mp h3 with h4 | h4 | ⟨h4, h5⟩
            · exact .inl h4
            · exact .inr (.inl h4)
            · exact .inr (.inr ⟨h4, h2⟩)
        · rintro (h3 | h3 | ⟨h3, h4⟩)
          · rw [h3]; exact hb
          · exact hs2.mpr ⟨hb2.1, .inr (ih.mpr (.inr (.inl h3)))⟩
          · exact h4
/-- behind an end that is no farther than e -/
theorem enP_from (hS : bitR S) (hw : wok L W) (h0 : no0 L) {b e : Int} (hb : b = 0 ∨ enP L W S 0 b) (hbe : b < e) : enP L W S 0 e ↔ enP L W S b e := by
  rcases hb with rfl | hb
  · exact Iff.rfl
  · rw [enP_trans hS hw h0 b.toNat 0 b (Int.le_refl _) (by omega) hb]
    constructor
    · rintro (h | h | ⟨h, _⟩)
      · omega
      · exact h
      · omega
    · intro h
      exact .inr (.inl h)
/-- ends that are marked -/
theorem enF_at (hS : bitR S) (hw : wok L W) (h0 : no0 L) : ∀ (j : Nat) (a : Int) (E : List Int) (e : Int), 0 ≤ a → S.length < E.length → 0 ≤ e → (yat (enF L W S j a E) e ≠ 0 ↔ yat E e ≠ 0 ∨ chP L W S j a e)
  | 0, a, E, e, ha, hl, he => by
    unfold enF chP
    simp
  | j + 1, a, E, e, ha, hl, he => by
    have hg := nx_gt hS hw h0 a
    unfold enF chP
    unfold nxM at hg ⊢
    by_cases h : waF L W S a L.length 0 < 0
    · rw [if_pos h, if_pos h]
      simp
    · rw [if_neg h] at hg
      have hr := (waF_rng L W S a L.length 0).2.2 (by omega)
      rw [if_neg h, if_neg h, enF_at hS hw h0 j _ _ e (by omega) (by rw [yput_len]; exact hl) he]
      by_cases he2 : e = a + yat L (waF L W S a L.length 0)
      · rw [he2, yat_pu (by omega)]
        exact ⟨fun _ => .inr ⟨by omega, .inl rfl⟩, fun _ => .inl (by omega)⟩
      · rw [yat_ne he2]
        constructor
        · rintro (h3 | h3)
          · exact .inl h3
          · exact .inr ⟨by omega, .inr h3⟩
        · rintro (h3 | ⟨_, h3 | h3⟩)
          · exact .inl h3
          · exact absurd h3 he2
          · exact .inr h3
theorem enA_at (hS : bitR S) (hw : wok L W) (h0 : no0 L) (hl : S.length ≤ 4200) {e : Int} (he : 0 ≤ e ∧ e ≤ S.length) : yat (enA L W S) e ≠ 0 ↔ enP L W S 0 e := by
  unfold enA
  rw [enF_at hS hw h0 _ _ _ e (Int.le_refl _) (by rw [List.length_replicate]; omega) he.1, yat_rep]
  unfold enP
  rw [chP_fuel hS hw h0 (S.length + 1) (e - 0).toNat 0 (Int.le_refl _) (by omega) (by omega)]
  simp
end
