/-! the pure part: trees joined in a row, and how deep those are that were jumped over -/
def lsD : List Int → Int → Int
  | [], p => p
  | z :: l, _ => lsD l z
def hdG (t : Int) : List Int → Prop
  | [] => True
  | y :: _ => t < y
/-- from a heavy one to a lighter one on its right, k halvings between -/
def Tl : List Int → Nat → Int → Nat → Int → Prop
  | [], _, _, _, _ => False
  | z :: R, 0, t, k, p => t < p + z ∧ k = 0 ∧ z < t ∧ hdG (t - z) R
  | z :: R, j + 1, t, k, p => t < p + z ∧ ((z < t ∧ Tl R j t k z) ∨ (p = t ∧ z = t ∧ Tl R j t k t) ∨ ∃ k', k = k' + 1 ∧ 2 * z = t ∧ Tl R j z k' z)
theorem lsD_app : ∀ (A B : List Int) (p : Int), lsD (A ++ B) p = lsD B (lsD A p)
  | [], _, _ => rfl
  | a :: A, B, p => lsD_app A B a
theorem hdG_mono {t t' : Int} (h : t' ≤ t) : ∀ {R : List Int}, hdG t R → hdG t' R
  | [], _ => trivial
  | y :: _, h2 => by
    unfold hdG at h2 ⊢
    omega
theorem Tl_mono {t p p' : Int} {k : Nat} (h1 : p ≤ p') (h2 : p' ≤ t) : ∀ {L : List Int} {j : Nat}, Tl L j t k p → Tl L j t k p'
  | [], _, h => h
  | z :: R, 0, h => by
    unfold Tl at h ⊢
    exact ⟨by omega, h.2⟩
  | z :: R, j + 1, h => by
    unfold Tl at h ⊢
    refine ⟨by omega, ?_⟩
    rcases h.2 with h3 | h3 | h3
    · exact .inl h3
    · exact .inr (.inl ⟨by omega, h3.2⟩)
    · exact .inr (.inr h3)
/-- the first one is no heavier; it is as heavy only as one of the block -/
theorem Tl_hd {t p : Int} {k : Nat} (ht : 0 < t) {z : Int} {R : List Int} : ∀ {j : Nat}, Tl (z :: R) j t k p → z < t ∨ (p = t ∧ z = t ∧ ∃ j', j = j' + 1 ∧ Tl R j' t k t)
  | 0, h => by
    unfold Tl at h
    exact .inl h.2.2.1
  | j + 1, h => by
    unfold Tl at h
    rcases h.2 with h3 | h3 | ⟨k', h3, h4, h5⟩
    · exact .inl h3.1
    · exact .inr ⟨h3.1, h3.2.1, j, rfl, h3.2.2⟩
    · exact .inl (by omega)
/-- two that are joined are taken out -/
theorem Tl_del {t p u v : Int} {k : Nat} {D : List Int} (hv0 : 0 < v) (hu0 : 0 < u) (hp : p ≤ t) (hv : v < p) (hD : hdG (u - 1) D) : ∀ {j : Nat}, Tl (u :: v :: D) (j + 2) t k p → Tl D j t k p
  | j, h => by
    match D, hD with
    | [], _ =>
      unfold Tl at h
      rcases h.2 with ⟨_, h4⟩ | ⟨_, _, h4⟩ | ⟨_, _, _, h4⟩ <;> (unfold Tl at h4; rcases h4.2 with ⟨_, h5⟩ | ⟨_, _, h5⟩ | ⟨_, _, _, h5⟩ <;> exact h5.elim)
    | y :: D', hD =>
      have hy : u ≤ y := by
        unfold hdG at hD
        omega
      unfold Tl at h
      obtain ⟨h1, h2⟩ := h
      rcases h2 with ⟨h3, h4⟩ | ⟨h3, h5, h4⟩ | ⟨k', h3, h5, h4⟩
      · unfold Tl at h4
        rcases h4.2 with ⟨g1, g2⟩ | ⟨g1, g2, g3⟩ | ⟨k'', g1, g2, g3⟩
        · exact Tl_mono (by omega) hp g2
        · omega
        · have := Tl_hd (by omega) g3
          omega
      · unfold Tl at h4
        rcases h4.2 with ⟨g1, g2⟩ | ⟨g1, g2, g3⟩ | ⟨k'', g1, g2, g3⟩
        · have := Tl_hd (by omega) g2
          omega
        · omega
        · have := Tl_hd (by omega) g3
          omega
      · unfold Tl at h4
        rcases h4.2 with ⟨g1, g2⟩ | ⟨g1, g2, g3⟩ | ⟨k'', g1, g2, g3⟩
        · have := Tl_hd (by omega) g2
          omega
        · rcases Tl_hd (by omega) g3 with g4 | ⟨g4, g5, j', g6, g7⟩
          · omega
          · subst g6
            unfold Tl
            refine ⟨by omega, .inr (.inr ⟨k', h3, by omega, ?_⟩)⟩
            rw [g5]
            exact g7
        · have := Tl_hd (by omega) g3
          omega
/-- a joined one comes in -/
theorem Tl_ins {t p n z z' : Int} {k : Nat} {L : List Int} (hp : p ≤ t) (hn : n ≤ p) (hz : z < n) (hz' : z' < n) : ∀ {j : Nat}, Tl (z :: z' :: L) j t k p → Tl (n :: z :: z' :: L) (j + 1) t k p
  | j, h => by
    have h1 : t < p + z := by
      cases j with
      | zero => unfold Tl at h; exact h.1
      | succ j => unfold Tl at h; exact h.1
    rw [Tl]
    refine ⟨by omega, ?_⟩
    by_cases hnt : n = t
    · refine .inr (.inl ⟨by omega, hnt, ?_⟩)
      rw [show t = p by omega] at h ⊢
      exact h
    · refine .inl ⟨by omega, ?_⟩
      cases j with
      | zero =>
        unfold Tl at h ⊢
        obtain ⟨_, h3, h4, h5⟩ := h
        have : t - z < z' := h5
        exact ⟨by omega, h3, h4, h5⟩
      | succ j =>
        rw [Tl] at h ⊢
        rcases h.2 with ⟨h3, h4⟩ | ⟨h3, h5, h4⟩ | ⟨k', h3, h5, h4⟩
        · have h6 : t < z + z' := by
            cases j with
            | zero => unfold Tl at h4; exact h4.1
            | succ j => unfold Tl at h4; exact h4.1
          exact ⟨by omega, .inl ⟨h3, h4⟩⟩
        · omega
        · exact ⟨by omega, .inr (.inr ⟨k', h3, h5, h4⟩)⟩
/-- it comes where the two were -/
theorem Tl_repl {t p u v : Int} {k : Nat} {D : List Int} (hu0 : 0 < u) (hv0 : 0 < v) (hp : p ≤ t) (hn : u + v ≤ p) (hD : hdG (u - 1) D) {j : Nat} (h : Tl (u :: v :: D) (j + 2) t k p) : Tl ((u + v) :: D) (j + 1) t k p := by
  match D, hD with
  | [], _ =>
    unfold Tl at h
    rcases h.2 with ⟨_, h4⟩ | ⟨_, _, h4⟩ | ⟨_, _, _, h4⟩ <;> (unfold Tl at h4; rcases h4.2 with ⟨_, h5⟩ | ⟨_, _, h5⟩ | ⟨_, _, _, h5⟩ <;> exact h5.elim)
  | y :: D', hD =>
    have hy : u ≤ y := by
      unfold hdG at hD
      omega
    unfold Tl at h
    obtain ⟨h1, h2⟩ := h
    rcases h2 with ⟨h3, h4⟩ | ⟨h3, h5, h4⟩ | ⟨k', h3, h5, h4⟩
    · unfold Tl at h4
      have := h4.1
      omega
    · omega
    · unfold Tl at h4
      rcases h4.2 with ⟨g1, g2⟩ | ⟨g1, g2, g3⟩ | ⟨k'', g1, g2, g3⟩
      · have := Tl_hd (by omega) g2
        omega
      · rcases Tl_hd (by omega) g3 with g4 | ⟨g4, g5, j', g6, g7⟩
        · omega
        · subst g6
          rw [Tl]
          refine ⟨by omega, .inr (.inl ⟨by omega, by omega, ?_⟩)⟩
          rw [Tl]
          refine ⟨by omega, .inr (.inr ⟨k', h3, by omega, ?_⟩)⟩
          rw [g5]
          exact g7
      · have := Tl_hd (by omega) g3
        omega
section
variable {u v : Int} {D : List Int}
/-- one of the two that are joined is the light one -/
theorem Tl_L0 (hu0 : 0 < u) (hv0 : 0 < v) : ∀ (Q : List Int) {m : Nat} {t p : Int}, p ≤ t → v < lsD Q p → (m = Q.length ∨ m = Q.length + 1) → Tl (Q ++ u :: v :: D) m t 0 p → u + v < 2 * t
  | [], m, t, p, hp, hl, hm, h => by
    have hl' : v < p := hl
    rcases hm with rfl | rfl
    · have h' : Tl (u :: v :: D) 0 t 0 p := h
      unfold Tl at h'
      omega
    · have h' : Tl (u :: v :: D) 1 t 0 p := h
      unfold Tl at h'
      rcases h'.2 with ⟨h3, h4⟩ | ⟨h3, h5, h4⟩ | ⟨k', h3, h5, h4⟩
      · unfold Tl at h4
        omega
      · unfold Tl at h4
        omega
      · omega
  | z :: Q, m, t, p, hp, hl, hm, h => by
    obtain ⟨m', rfl⟩ : ∃ m', m = m' + 1 := ⟨m - 1, by simp at hm; omega⟩
    have hm' : m' = Q.length ∨ m' = Q.length + 1 := by
      simp at hm
      omega
    have h' : Tl (z :: (Q ++ u :: v :: D)) (m' + 1) t 0 p := h
    unfold Tl at h'
    rcases h'.2 with ⟨h3, h4⟩ | ⟨h3, h5, h4⟩ | ⟨k', h3, h5, h4⟩
    · exact Tl_L0 hu0 hv0 Q (by omega) hl hm' h4
    · rw [← h5] at h4 ⊢
      exact Tl_L0 hu0 hv0 Q (Int.le_refl _) hl hm' h4
    · omega
theorem Tl_LT (hu0 : 0 < u) (hv0 : 0 < v) : ∀ (Q : List Int) {m : Nat} {t p : Int} {k : Nat}, p ≤ t → v < lsD Q p → (m = Q.length ∨ m = Q.length + 1) → 1 ≤ k → Tl (Q ++ u :: v :: D) m t k p → u + v < t
  | [], m, t, p, k, hp, hl, hm, hk, h => by
    rcases hm with rfl | rfl
    · have h' : Tl (u :: v :: D) 0 t k p := h
      unfold Tl at h'
      omega
    · have h' : Tl (u :: v :: D) 1 t k p := h
      unfold Tl at h'
      rcases h'.2 with ⟨h3, h4⟩ | ⟨h3, h5, h4⟩ | ⟨k', h3, h5, h4⟩
      · unfold Tl at h4
        omega
      · unfold Tl at h4
        omega
      · unfold Tl at h4
        omega
  | z :: Q, m, t, p, k, hp, hl, hm, hk, h => by
    obtain ⟨m', rfl⟩ : ∃ m', m = m' + 1 := ⟨m - 1, by simp at hm; omega⟩
    have hm' : m' = Q.length ∨ m' = Q.length + 1 := by
      simp at hm
      omega
    have h' : Tl (z :: (Q ++ u :: v :: D)) (m' + 1) t k p := h
    unfold Tl at h'
    rcases h'.2 with ⟨h3, h4⟩ | ⟨h3, h5, h4⟩ | ⟨k', h3, h5, h4⟩
    · exact Tl_LT hu0 hv0 Q (by omega) hl hm' hk h4
    · rw [← h5] at h4 ⊢
      exact Tl_LT hu0 hv0 Q (Int.le_refl _) hl hm' hk h4
    · by_cases hk' : 1 ≤ k'
      · have := Tl_LT hu0 hv0 Q (Int.le_refl _) hl hm' hk' h4
        have h6 : v < lsD Q z := hl
        omega
      · rw [show k' = 0 by omega] at h4
        have := Tl_L0 hu0 hv0 Q (Int.le_refl _) hl hm' h4
        omega
theorem Tl_K1 (hu0 : 0 < u) (hv0 : 0 < v) : ∀ (Q : List Int) {m : Nat} {t p : Int} {k : Nat}, p ≤ t → v < lsD Q p → (m = Q.length ∨ m = Q.length + 1) → (∀ z ∈ Q, z < u + v) → u + v ≤ t → Tl (Q ++ u :: v :: D) m t k p → k = 1 ∧ u + v < t
  | [], m, t, p, k, hp, hl, hm, _, hn, h => by
    rcases hm with rfl | rfl
    · have h' : Tl (u :: v :: D) 0 t k p := h
      unfold Tl at h'
      have : t - u < v := h'.2.2.2
      omega
    · have h' : Tl (u :: v :: D) 1 t k p := h
      unfold Tl at h'
      rcases h'.2 with ⟨h3, h4⟩ | ⟨h3, h5, h4⟩ | ⟨k', h3, h5, h4⟩
      · unfold Tl at h4
        omega
      · omega
      · unfold Tl at h4
        omega
  | z :: Q, m, t, p, k, hp, hl, hm, hQ, hn, h => by
    obtain ⟨m', rfl⟩ : ∃ m', m = m' + 1 := ⟨m - 1, by simp at hm; omega⟩
    have hm' : m' = Q.length ∨ m' = Q.length + 1 := by
      simp at hm
      omega
    have hz := hQ z (.head _)
    have h' : Tl (z :: (Q ++ u :: v :: D)) (m' + 1) t k p := h
    unfold Tl at h'
    rcases h'.2 with ⟨h3, h4⟩ | ⟨h3, h5, h4⟩ | ⟨k', h3, h5, h4⟩
    · exact Tl_K1 hu0 hv0 Q (by omega) hl hm' (fun x hx => hQ x (.tail _ hx)) hn h4
    · omega
    · by_cases hk' : 1 ≤ k'
      · have := Tl_LT hu0 hv0 Q (Int.le_refl _) hl hm' hk' h4
        omega
      · rw [show k' = 0 by omega] at h4 h3
        have := Tl_L0 hu0 hv0 Q (Int.le_refl _) hl hm' h4
        omega
theorem Tl_cons (hu0 : 0 < u) (hv0 : 0 < v) (hD : hdG (u - 1) D) : ∀ (Q : List Int) {m : Nat} {t p : Int} {k : Nat}, p ≤ t → v < lsD Q p → (m = Q.length ∨ m = Q.length + 1) → (∀ z ∈ Q, z < u + v) → u + v ≤ p → Tl (Q ++ u :: v :: D) m t k p → k = 1 ∧ Tl ((u + v) :: (Q ++ D)) 0 t 0 p
  | [], m, t, p, k, hp, hl, hm, _, hn, h => by
    have hk := Tl_K1 hu0 hv0 [] hp hl hm (fun z hz => by cases hz) (by omega) h
    refine ⟨hk.1, ?_⟩
    rcases hm with rfl | rfl
    · have h' : Tl (u :: v :: D) 0 t k p := h
      unfold Tl at h'
      omega
    · have h' : Tl (u :: v :: D) 1 t k p := h
      unfold Tl at h'
      rcases h'.2 with ⟨h3, h4⟩ | ⟨h3, h5, h4⟩ | ⟨k', h3, h5, h4⟩
      · unfold Tl at h4
        omega
      · omega
      · unfold Tl at h4
        obtain ⟨g1, g2, g3, g4⟩ := h4
        unfold Tl
        exact ⟨by omega, rfl, by omega, hdG_mono (by omega) g4⟩
  | z :: Q, m, t, p, k, hp, hl, hm, hQ, hn, h => by
    have hk := Tl_K1 hu0 hv0 (z :: Q) hp hl hm hQ (by omega) h
    refine ⟨hk.1, ?_⟩
    obtain ⟨m', rfl⟩ : ∃ m', m = m' + 1 := ⟨m - 1, by simp at hm; omega⟩
    have hz := hQ z (.head _)
    have h' : Tl (z :: (Q ++ u :: v :: D)) (m' + 1) t k p := h
    unfold Tl at h'
    have hhd : t < u + v + z := by
      rcases h'.2 with ⟨h3, h4⟩ | ⟨h3, h5, h4⟩ | ⟨k', h3, h5, h4⟩
      · have : ∃ y R, Q ++ u :: v :: D = y :: R ∧ y < u + v := by
          cases Q with
          | nil => exact ⟨u, v :: D, rfl, by omega⟩
          | cons y Q' => exact ⟨y, Q' ++ u :: v :: D, rfl, hQ y (.tail _ (.head _))⟩
        obtain ⟨y, R, e, hy⟩ := this
        rw [e] at h4
        have : t < z + y := by
          cases m' with
          | zero => unfold Tl at h4; exact h4.1
          | succ j => unfold Tl at h4; exact h4.1
        omega
      · omega
      · omega
    rw [show z :: Q ++ D = z :: (Q ++ D) from rfl]
    unfold Tl
    refine ⟨by omega, rfl, hk.2, ?_⟩
    unfold hdG
    omega
end
/-- what lies ahead stays -/
theorem Tl_ctx {T T' : List Int} {j j' : Nat} : ∀ (S : List Int) {t p : Int} {k : Nat}, p ≤ t → (∀ (t' : Int) (k' : Nat), lsD S p ≤ t' → Tl T j t' k' (lsD S p) → Tl T' j' t' k' (lsD S p)) → Tl (S ++ T) (S.length + j) t k p → Tl (S ++ T') (S.length + j') t k p
  | [], t, p, k, hp, hh, h => by
    have := hh t k hp (by simpa [lsD] using h)
    simpa [lsD] using this
  | z :: S, t, p, k, hp, hh, h => by
    have h' : Tl (z :: (S ++ T)) (S.length + j + 1) t k p := by
      rw [show S.length + j + 1 = (z :: S).length + j by simp; omega]
      exact h
    have g : Tl (z :: (S ++ T')) (S.length + j' + 1) t k p := by
      rw [Tl] at h' ⊢
      refine ⟨h'.1, ?_⟩
      rcases h'.2 with ⟨h3, h4⟩ | ⟨h3, h5, h4⟩ | ⟨k', h3, h5, h4⟩
      · exact .inl ⟨h3, Tl_ctx S (by omega) hh h4⟩
      · refine .inr (.inl ⟨h3, h5, ?_⟩)
        rw [← h5] at h4 ⊢
        exact Tl_ctx S (Int.le_refl _) hh h4
      · exact .inr (.inr ⟨k', h3, h5, Tl_ctx S (Int.le_refl _) hh h4⟩)
    rw [show (z :: S).length + j' = S.length + j' + 1 by simp; omega]
    exact g
theorem Tl_ctxC {T T' : List Int} {j j' : Nat} : ∀ (S : List Int) {t p : Int} {k : Nat}, p ≤ t → (∀ (t' : Int) (k' : Nat), lsD S p ≤ t' → Tl T j t' k' (lsD S p) → k' = 1 ∧ Tl T' j' t' 0 (lsD S p)) → Tl (S ++ T) (S.length + j) t k p → ∃ q, k = q + 1 ∧ Tl (S ++ T') (S.length + j') t q p
  | [], t, p, k, hp, hh, h => by
    have := hh t k hp (by simpa [lsD] using h)
    exact ⟨0, this.1, by simpa [lsD] using this.2⟩
  | z :: S, t, p, k, hp, hh, h => by
    have h' : Tl (z :: (S ++ T)) (S.length + j + 1) t k p := by
      rw [show S.length + j + 1 = (z :: S).length + j by simp; omega]
      exact h
    rw [Tl] at h'
    have back : ∀ {q : Nat}, Tl (z :: (S ++ T')) (S.length + j' + 1) t q p → Tl (z :: S ++ T') ((z :: S).length + j') t q p := fun {q} g => by
      rw [show (z :: S).length + j' = S.length + j' + 1 by simp; omega]
      exact g
    rcases h'.2 with ⟨h3, h4⟩ | ⟨h3, h5, h4⟩ | ⟨k', h3, h5, h4⟩
    · obtain ⟨q, hq, g⟩ := Tl_ctxC S (by omega) hh h4
      refine ⟨q, hq, back ?_⟩
      rw [Tl]
      exact ⟨h'.1, .inl ⟨h3, g⟩⟩
    · rw [← h5] at h4
      obtain ⟨q, hq, g⟩ := Tl_ctxC S (Int.le_refl _) hh h4
      refine ⟨q, hq, back ?_⟩
      rw [Tl]
      refine ⟨h'.1, .inr (.inl ⟨h3, h5, ?_⟩)⟩
      rw [← h5]
      exact g
    · obtain ⟨q, hq, g⟩ := Tl_ctxC S (Int.le_refl _) hh h4
      refine ⟨q + 1, by omega, back ?_⟩
      rw [Tl]
      exact ⟨h'.1, .inr (.inr ⟨q, rfl, h5, g⟩)⟩
/-- what lies behind hardly counts -/
theorem Tl_tail {T T' : List Int} (hT : ∀ t, hdG t T → hdG t T') : ∀ (S : List Int) {t p : Int} {k j : Nat}, j < S.length → Tl (S ++ T) j t k p → Tl (S ++ T') j t k p
  | [], _, _, _, _, hj, _ => by simp at hj
  | z :: S, t, p, k, 0, _, h => by
    have h' : Tl (z :: (S ++ T)) 0 t k p := h
    unfold Tl at h'
    show Tl (z :: (S ++ T')) 0 t k p
    unfold Tl
    refine ⟨h'.1, h'.2.1, h'.2.2.1, ?_⟩
    cases S with
    | nil => exact hT _ h'.2.2.2
    | cons y S' => exact h'.2.2.2
  | z :: S, t, p, k, j + 1, hj, h => by
    have h' : Tl (z :: (S ++ T)) (j + 1) t k p := h
    have hj' : j < S.length := by simp at hj; omega
    show Tl (z :: (S ++ T')) (j + 1) t k p
    rw [Tl] at h' ⊢
    refine ⟨h'.1, ?_⟩
    rcases h'.2 with ⟨h3, h4⟩ | ⟨h3, h5, h4⟩ | ⟨k', h3, h5, h4⟩
    · exact .inl ⟨h3, Tl_tail hT S hj' h4⟩
    · exact .inr (.inl ⟨h3, h5, Tl_tail hT S hj' h4⟩)
    · exact .inr (.inr ⟨k', h3, h5, Tl_tail hT S hj' h4⟩)
/-- sums of neighbours -/
def ads (t : Int) : List Int → Prop
  | a :: b :: l => t < a + b ∧ ads t (b :: l)
  | _ => True
def dsc : List Int → Prop
  | a :: b :: c :: l => c < a ∧ dsc (b :: c :: l)
  | _ => True
theorem Tl_pre {T : List Int} {t : Int} {j k : Nat} : ∀ (Q : List Int) {p : Int}, ads t (p :: Q) → (∀ z ∈ Q, z < t) → Tl T j t k (lsD Q p) → Tl (Q ++ T) (Q.length + j) t k p
  | [], p, _, _, h => by simpa [lsD] using h
  | z :: Q, p, ha, hz, h => by
    rw [show (z :: Q).length + j = Q.length + j + 1 by simp; omega]
    show Tl (z :: (Q ++ T)) (Q.length + j + 1) t k p
    rw [Tl]
    exact ⟨ha.1, .inl ⟨hz z (.head _), Tl_pre Q ha.2 (fun x hx => hz x (.tail _ hx)) h⟩⟩
theorem dsc_tl {a : Int} : ∀ {l : List Int}, dsc (a :: l) → dsc l
  | [], _ => trivial
  | [b], _ => trivial
  | b :: c :: l, h => h.2
theorem dsc_last {u v : Int} : ∀ (S : List Int), dsc (S ++ [u, v]) → ∀ p, v < p → v < lsD S p
  | [], _, p, hp => hp
  | [a], h, p, _ => h.1
  | a :: b :: S, h, p, hp => by
    have h2 : dsc (b :: S ++ [u, v]) := dsc_tl h
    cases S with
    | nil => exact h2.1
    | cons c S' =>
      have := dsc_last (c :: S') (dsc_tl h2) b
      show v < lsD (c :: S') b
      exact dsc_last (b :: c :: S') h2 p hp
theorem dsc_ads {u v : Int} : ∀ (S : List Int), dsc (S ++ [u, v]) → ads (u + v) (S ++ [u])
  | [], _ => trivial
  | [a], h => by
    have h1 : v < a := h.1
    exact ⟨by omega, trivial⟩
  | a :: b :: S, h => by
    have ih : ads (u + v) (b :: S ++ [u]) := dsc_ads (b :: S) (dsc_tl h)
    refine ⟨?_, ih⟩
    cases S with
    | nil =>
      have h1 : u < a := h.1
      have h2 : u + v < b + u := ih.1
      omega
    | cons c S' =>
      have h1 : c < a := h.1
      have h2 : u + v < b + c := ih.1
      omega
