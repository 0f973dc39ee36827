/-! the pure part: coming into step again, both ways -/
section
variable {L W S : List Int}
/-- the last end up to a place -/
def ltE (L W S : List Int) (p e : Int) : Prop := (0 ≤ e ∧ e ≤ p) ∧ (e = 0 ∨ enP L W S 0 e) ∧ (nxM L W S e < 0 ∨ p < nxM L W S e)
theorem enP_next (hS : bitR S) (hw : wok L W) (h0 : no0 L) {e : Int} (h1 : e = 0 ∨ enP L W S 0 e) (h2 : 0 ≤ nxM L W S e) : enP L W S 0 (nxM L W S e) := by
  have he : 0 ≤ e := by
    rcases h1 with rfl | h1
    · exact Int.le_refl _
    · have := enP_gt hS hw h0 h1
      omega
  have hg := nx_gt hS hw h0 e
  rw [enP_from hS hw h0 h1 (by omega), enP_step hS hw h0 he]
  exact ⟨h2, .inl rfl⟩
theorem leF_ok (hS : bitR S) (hw : wok L W) (hL : ∀ x ∈ L, x ≤ 25) (h0 : no0 L) {p : Int} (hp : p < S.length) : ∀ (j : Nat) (e : Int), p - e ≤ j → (0 ≤ e ∧ e ≤ p) → (e = 0 ∨ enP L W S 0 e) → ltE L W S p (leF L W S p j e)
  | 0, e, hj, he, h1 => by
    unfold leF
    refine ⟨he, h1, ?_⟩
    have := nx_gt hS hw h0 e
    omega
  | j + 1, e, hj, he, h1 => by
    unfold leF
    rw [ne_nx hS hw hL (by omega)]
    have hg := nx_gt hS hw h0 e
    split
    · rename_i h
      exact ⟨he, h1, h⟩
    · rename_i h
      exact leF_ok hS hw hL h0 hp j _ (by omega) (by omega) (.inr (enP_next hS hw h0 h1 (by omega)))
/-- a common end -/
def cmE (L W S : List Int) (p : Int) (a b x : Int) : Prop := p < x ∧ (x = a ∨ enP L W S a x) ∧ (x = b ∨ enP L W (fpF S p) b x)
def lstC (C : Int → Prop) (r : Int) : Prop := (r = -1 ∧ ∀ x, ¬ C x) ∨ (C r ∧ ∀ x, C x → r ≤ x)
theorem lst_one {C : Int → Prop} {r q : Int} (hC : ∀ x, C x → 0 ≤ x) (h1 : lstC C r) (h2 : lstC C q) : r = q := by
  rcases h1 with ⟨h1, h3⟩ | ⟨h1, h3⟩ <;> rcases h2 with ⟨h2, h4⟩ | ⟨h2, h4⟩
  · rw [h1, h2]
  · exact absurd h2 (h3 _)
  · exact absurd h1 (h4 _)
  · have := h3 _ h2
    have := h4 _ h1
    omega
theorem lst_iff {C D : Int → Prop} {r : Int} (h : ∀ x, C x ↔ D x) (h1 : lstC C r) : lstC D r := by
  rcases h1 with ⟨h1, h3⟩ | ⟨h1, h3⟩
  · exact .inl ⟨h1, fun x hx => h3 x ((h x).mpr hx)⟩
  · exact .inr ⟨(h r).mp h1, fun x hx => h3 x ((h x).mpr hx)⟩
theorem stF_ok (hS : bitR S) (hw : wok L W) (hL : ∀ x ∈ L, x ≤ 25) (h0 : no0 L) {p : Int} (hp : 0 ≤ p ∧ p < S.length) : ∀ (j : Nat) (a b : Int), (0 ≤ a ∧ a ≤ S.length) → (0 ≤ b ∧ b ≤ S.length) → (S.length - a) + (S.length - b) ≤ j → (a = b → a ≤ p) → lstC (cmE L W S p a b) (stF L W S p j a b)
  | 0, a, b, ha, hb, hj, hab => by omega
  | j + 1, a, b, ha, hb, hj, hab => by
    have hS' := fpF_bit hS p
    have hl' := fpF_len S p
    unfold stF
    by_cases h : a ≤ b
    · rw [if_pos h, ne_nx hS hw hL ha]
      have hg := nx_gt hS hw h0 a
      have hc : ∀ x, cmE L W S p a b x ↔ 0 ≤ nxM L W S a ∧ cmE L W S p (nxM L W S a) b x := by
        intro x
        unfold cmE
        have hs := @enP_step L W S hS hw h0 a x ha.1
        constructor
        · rintro ⟨h1, h2, h3⟩
          have h4 : enP L W S a x := by
            rcases h2 with h2 | h2
            · rcases h3 with h3 | h3
              · have := hab (by omega)
                omega
              · have := enP_gt hS' hw h0 h3
                omega
            · exact h2
          exact ⟨(hs.mp h4).1, h1, (hs.mp h4).2, h3⟩
        · rintro ⟨h1, h2, h3, h4⟩
          exact ⟨h2, .inr (hs.mpr ⟨h1, h3⟩), h4⟩
      by_cases h1 : nxM L W S a < 0
      · rw [if_pos h1]
        exact .inl ⟨rfl, fun x hx => by have := (hc x).mp hx; omega⟩
      · rw [if_neg h1]
        by_cases h2 : nxM L W S a = b ∧ p < nxM L W S a
        · rw [if_pos h2]
          refine .inr ⟨(hc _).mpr ⟨by omega, h2.2, .inl rfl, .inl h2.1⟩, fun x hx => ?_⟩
          have h3 := (hc x).mp hx
          rcases h3.2.2.1 with h4 | h4
          · omega
          · have := enP_gt hS hw h0 h4
            omega
        · rw [if_neg h2]
          refine lst_iff (fun x => ?_) (stF_ok hS hw hL h0 hp j (nxM L W S a) b (by omega) hb (by omega) (fun h3 => ?_))
          · rw [hc x]
            constructor
            · intro h4
              exact ⟨by omega, h4⟩
            · intro h4
              exact h4.2
          · refine Int.not_lt.mp fun h4 => h2 ⟨h3, h4⟩
    · rw [if_neg h, ne_nxt hS hw hL hb hp]
      have hg := nx_gt hS' hw h0 b
      rw [hl'] at hg
      have hc : ∀ x, cmE L W S p a b x ↔ 0 ≤ nxM L W (fpF S p) b ∧ cmE L W S p a (nxM L W (fpF S p) b) x := by
        intro x
        unfold cmE
        have hs := @enP_step L W (fpF S p) hS' hw h0 b x hb.1
        constructor
        · rintro ⟨h1, h2, h3⟩
          have h4 : enP L W (fpF S p) b x := by
            rcases h3 with h3 | h3
            · rcases h2 with h2 | h2
              · omega
              · have := enP_gt hS hw h0 h2
                omega
            · exact h3
          exact ⟨(hs.mp h4).1, h1, h2, (hs.mp h4).2⟩
        · rintro ⟨h1, h2, h3, h4⟩
          exact ⟨h2, h3, .inr (hs.mpr ⟨h1, h4⟩)⟩
      by_cases h1 : nxM L W (fpF S p) b < 0
      · rw [if_pos h1]
        exact .inl ⟨rfl, fun x hx => by have := (hc x).mp hx; omega⟩
      · rw [if_neg h1]
        by_cases h2 : a = nxM L W (fpF S p) b ∧ p < a
        · rw [if_pos h2]
          refine .inr ⟨(hc _).mpr ⟨by omega, h2.2, .inl rfl, .inl h2.1⟩, fun x hx => ?_⟩
          rcases hx.2.1 with h4 | h4
          · omega
          · have := enP_gt hS hw h0 h4
            omega
        · rw [if_neg h2]
          refine lst_iff (fun x => ?_) (stF_ok hS hw hL h0 hp j a (nxM L W (fpF S p) b) ha (by omega) (by omega) (fun h3 => ?_))
          · rw [hc x]
            constructor
            · intro h4
              exact ⟨by omega, h4⟩
            · intro h4
              exact h4.2
          · refine Int.not_lt.mp fun h4 => h2 ⟨h3, h4⟩
/-- words that end ahead of the bit that is turned -/
theorem nx_same (hS : bitR S) (ha : apart 2 L W) (hL : ∀ x ∈ L, x ≤ 25) {p : Int} (hp : 0 ≤ p ∧ p < S.length) {e : Int} (he : 0 ≤ e) {n : Int} (hn : 0 ≤ n ∧ n ≤ p) : nxM L W S e = n ↔ nxM L W (fpF S p) e = n := by
  have hw := ap_wok ha hL
  have hS' := fpF_bit hS p
  have hl' := fpF_len S p
  have hm : ∀ i : Nat, e + yat L i ≤ p → (mtc L W S e i ↔ mtc L W (fpF S p) e i) := fun i hi => by
    unfold mtc
    rw [hl']
    constructor
    · rintro ⟨h1, h2, h3, h4⟩
      exact ⟨h1, h2, h3, by rw [nv_flip_out _ hp (by omega)]; exact h4⟩
    · rintro ⟨h1, h2, h3, h4⟩
      exact ⟨h1, h2, h3, by rw [nv_flip_out _ hp (by omega)] at h4; exact h4⟩
  constructor
  · intro h
    rcases nx_spec hS hw e with h1 | ⟨i, h1, h2⟩
    · omega
    · have h3 := (hm i (by omega)).mp h2
      rcases nx_spec hS' hw e with h4 | ⟨k, h4, h5⟩
      · exact absurd h3 (h4.2 i)
      · rw [mtc_one hS' ha hL h5 h3] at h4
        omega
  · intro h
    rcases nx_spec hS' hw e with h1 | ⟨i, h1, h2⟩
    · omega
    · have h3 := (hm i (by omega)).mpr h2
      rcases nx_spec hS hw e with h4 | ⟨k, h4, h5⟩
      · exact absurd h3 (h4.2 i)
      · rw [mtc_one hS ha hL h5 h3] at h4
        omega
theorem chP_same (hS : bitR S) (ha : apart 2 L W) (hL : ∀ x ∈ L, x ≤ 25) (h0 : no0 L) {p : Int} (hp : 0 ≤ p ∧ p < S.length) {e : Int} (hep : e ≤ p) : ∀ (j : Nat) (a : Int), 0 ≤ a → chP L W S j a e → chP L W (fpF S p) j a e
  | 0, a, _, h => h.elim
  | j + 1, a, h1, h => by
    have hw := ap_wok ha hL
    unfold chP at h ⊢
    have hg := nx_gt hS hw h0 a
    have hn : nxM L W S a ≤ p := by
      rcases h.2 with h3 | h3
      · omega
      · have := chP_gt hS hw h0 _ _ h3
        omega
    rw [(nx_same hS ha hL hp h1 ⟨h.1, hn⟩).mp rfl]
    exact ⟨h.1, h.2.imp id (chP_same hS ha hL h0 hp hep j _ h.1)⟩
theorem smF_ok (E F : List Int) : ∀ (j a : Nat), lstC (fun x => (a ≤ x ∧ x < a + j) ∧ yat E x ≠ 0 ∧ yat F x ≠ 0) (smF E F j a)
  | 0, a => .inl ⟨rfl, fun x h => by omega⟩
  | j + 1, a => by
    unfold smF
    by_cases h : yat E a ≠ 0 ∧ yat F a ≠ 0
    · rw [if_pos h]
      exact .inr ⟨⟨by omega, h⟩, fun x hx => hx.1.1⟩
    · rw [if_neg h]
      refine lst_iff (fun x => ?_) (smF_ok E F j (a + 1))
      constructor
      · rintro ⟨h1, h2⟩
        exact ⟨by omega, h2⟩
      · rintro ⟨h1, h2⟩
        refine ⟨?_, h2⟩
        by_cases hx : x = a
        · subst hx
          exact absurd h2 h
        · omega
/-- the same place -/
theorem st_sq (hS : bitR S) (ha : apart 2 L W) (hL : ∀ x ∈ L, x ≤ 25) (h0 : no0 L) (hl : S.length ≤ 3000) {p : Nat} (hp : p < S.length) {e : Int} (he : ltE L W S p e) : stA L W S p e = sqF L W S p := by
  have hw := ap_wok ha hL
  have hS' := fpF_bit hS p
  have hl' := fpF_len S p
  obtain ⟨he1, he2, he3⟩ := he
  have he2' : e = 0 ∨ enP L W (fpF S p) 0 e := he2.imp id (chP_same hS ha hL h0 (by omega) he1.2 _ _ (Int.le_refl _))
  have h1 := stF_ok hS hw hL h0 (p := p) (by omega) 6000 e e (by omega) (by omega) (by omega) (fun _ => he1.2)
  have h2 := smF_ok (enA L W S) (enA L W (fpF S p)) (S.length - p) (p + 1)
  unfold stA sqF
  refine lst_one (C := cmE L W S p e e) (fun x hx => by have := hx.1; omega) h1 (lst_iff (fun x => ?_) h2)
  unfold cmE
  constructor
  · rintro ⟨h3, h4, h5⟩
    rw [enA_at hS hw h0 (by omega) (by omega), enP_from hS hw h0 he2 (by omega)] at h4
    rw [enA_at hS' hw h0 (by omega) (by omega), enP_from hS' hw h0 he2' (by omega)] at h5
    exact ⟨by omega, .inr h4, .inr h5⟩
  · rintro ⟨h3, h4, h5⟩
    have h4' : enP L W S e x := by
      rcases h4 with h4 | h4
      · omega
      · exact h4
    have h5' : enP L W (fpF S p) e x := by
      rcases h5 with h5 | h5
      · omega
      · exact h5
    have hg := enP_gt hS hw h0 h4'
    refine ⟨by omega, ?_, ?_⟩
    · rw [enA_at hS hw h0 (by omega) (by omega), enP_from hS hw h0 he2 (by omega)]
      exact h4'
    · rw [enA_at hS' hw h0 (by omega) (by omega), enP_from hS' hw h0 he2' (by omega)]
      exact h5'
theorem in_step (hS : bitR S) (ha : apart 2 L W) (hL : ∀ x ∈ L, x ≤ 25) (h0 : no0 L) (hl : S.length ≤ 3000) {p : Nat} (hp : p < S.length) : stA L W S p (leF L W S p ((p : Int)).toNat 0) = sqF L W S p :=
  st_sq hS ha hL h0 hl hp (leF_ok hS (ap_wok ha hL) hL h0 (by omega) _ _ (by omega) (by omega) (.inl rfl))
theorem lo_ls (hS : bitR S) (ha : apart 2 L W) (hL : ∀ x ∈ L, x ≤ 25) (h0 : no0 L) (hl : S.length ≤ 3000) : ∀ (j p : Nat) (e v : Int), p + j ≤ S.length → (0 ≤ e ∧ e ≤ p) → (e = 0 ∨ enP L W S 0 e) → loF L W S j p e v = lsM L W S j p v
  | 0, p, e, v, _, _, _ => rfl
  | j + 1, p, e, v, hp, he, h1 => by
    have hle := leF_ok hS (ap_wok ha hL) hL h0 (p := p) (by omega) ((p : Int) - e).toNat e (by omega) he h1
    have h2 := st_sq hS ha hL h0 hl (by omega) hle
    unfold loF lsM
    rw [h2]
    have := lo_ls hS ha hL h0 hl j (p + 1) (leF L W S p ((p : Int) - e).toNat e) (if sqF L W S p < 0 then v + 1 else v) (by omega) (by have := hle.1; omega) hle.2.1
    rw [show ((p + 1 : Nat) : Int) = (p : Int) + 1 from rfl] at this
    rw [this]
    congr 1
    split <;> omega
theorem lost_ok (hS : bitR S) (ha : apart 2 L W) (hL : ∀ x ∈ L, x ≤ 25) (h0 : no0 L) (hl : S.length ≤ 3000) {f : Nat} (hf : f < S.length) : loA L W S f = lsA L W S f := by
  unfold loA lsA
  have e : ((if (f : Int) + 32 ≤ (S.length : Int) then (f : Int) + 32 else (S.length : Int)) - f).toNat = (if f + 32 ≤ S.length then f + 32 else S.length) - f := by
    split <;> split <;> omega
  rw [e]
  exact lo_ls hS ha hL h0 hl _ f 0 0 (by split <;> omega) (by omega) (.inl rfl)
end
