/-! the pure part: levels in a row of trees -/
def gop (P Q : List Int) (u v : Int) (D : List Int) : Prop := (∀ z ∈ Q, z < u + v) ∧ u + v ≤ lsD P (u + v) ∧ dsc (P ++ Q ++ [u, v]) ∧ hdG (u - 1) D
/-- levels by undoing the joining -/
def GL : Nat → List Int → List Int → Prop
  | 0, row, L => row.length = 1 ∧ L = [0]
  | r + 1, row, L => ∃ (P Q : List Int) (u v : Int) (D LP LQ : List Int) (l : Int) (LD : List Int), row = P ++ (Q ++ u :: v :: D) ∧ L = LP ++ (LQ ++ (l + 1) :: (l + 1) :: LD) ∧ LP.length = P.length ∧ LQ.length = Q.length ∧ LD.length = D.length ∧ gop P Q u v D ∧ GL r (P ++ (u + v) :: (Q ++ D)) (LP ++ l :: (LQ ++ LD))
theorem app_split {X : Int} : ∀ {l1 l2 A R : List Int}, l1 ++ l2 = A ++ X :: R → (∃ l, l1 = A ++ X :: l ∧ R = l ++ l2) ∨ ∃ l, A = l1 ++ l ∧ l2 = l ++ X :: R
  | [], l2, A, R, h => .inr ⟨A, rfl, h⟩
  | a :: l1, l2, [], R, h => by
    have h' : a :: (l1 ++ l2) = X :: R := h
    injection h' with h1 h2
    exact .inl ⟨l1, by rw [h1]; rfl, h2.symm⟩
  | a :: l1, l2, b :: A, R, h => by
    have h' : a :: (l1 ++ l2) = b :: (A ++ X :: R) := h
    injection h' with h1 h2
    rcases app_split h2 with ⟨l, h3, h4⟩ | ⟨l, h3, h4⟩
    · exact .inl ⟨l, by rw [h1, h3]; rfl, h4⟩
    · exact .inr ⟨l, by rw [h1, h3]; rfl, h4⟩
section
variable {LP LQ LD : List Int} {a l : Int} {i : Nat}
theorem ix1 (h : i < LP.length) : (LP ++ (LQ ++ a :: a :: LD)).getD i 0 = (LP ++ l :: (LQ ++ LD)).getD i 0 := by
  rw [List.getD_eq_getElem?_getD, List.getD_eq_getElem?_getD, List.getElem?_append_left h, List.getElem?_append_left h]
theorem ix2 (h1 : LP.length ≤ i) (h2 : i < LP.length + LQ.length) : (LP ++ (LQ ++ a :: a :: LD)).getD i 0 = (LP ++ l :: (LQ ++ LD)).getD (i + 1) 0 := by
  have e1 : (LP ++ (LQ ++ a :: a :: LD))[i]? = (LQ ++ a :: a :: LD)[i - LP.length]? := List.getElem?_append_right h1
  have e2 : (LQ ++ a :: a :: LD)[i - LP.length]? = LQ[i - LP.length]? := List.getElem?_append_left (by omega)
  have e3 : (LP ++ l :: (LQ ++ LD))[i + 1]? = (l :: (LQ ++ LD))[i + 1 - LP.length]? := List.getElem?_append_right (by omega)
  have e4 : (LQ ++ LD)[i - LP.length]? = LQ[i - LP.length]? := List.getElem?_append_left (by omega)
  rw [List.getD_eq_getElem?_getD, List.getD_eq_getElem?_getD, e1, e2, e3, show i + 1 - LP.length = (i - LP.length) + 1 by omega, List.getElem?_cons_succ, e4]
theorem ix3 (h : i = LP.length + LQ.length ∨ i = LP.length + LQ.length + 1) : (LP ++ (LQ ++ a :: a :: LD)).getD i 0 = a := by
  rw [List.getD_eq_getElem?_getD, List.getElem?_append_right (by omega), List.getElem?_append_right (by omega)]
  rcases h with h | h
  · rw [show i - LP.length - LQ.length = 0 by omega]
    rfl
  · rw [show i - LP.length - LQ.length = 1 by omega]
    rfl
theorem ix3' : (LP ++ l :: (LQ ++ LD)).getD LP.length 0 = l := by
  rw [List.getD_eq_getElem?_getD, List.getElem?_append_right (Nat.le_refl _), Nat.sub_self]
  rfl
theorem ix4 (h : LP.length + LQ.length + 2 ≤ i) : (LP ++ (LQ ++ a :: a :: LD)).getD i 0 = (LP ++ l :: (LQ ++ LD)).getD (i - 1) 0 := by
  rw [List.getD_eq_getElem?_getD, List.getD_eq_getElem?_getD, List.getElem?_append_right (by omega), List.getElem?_append_right (by omega), List.getElem?_append_right (by omega), show i - 1 - LP.length = (i - LP.length - 2) + 1 by omega, List.getElem?_cons_succ, List.getElem?_append_right (by omega), show i - LP.length - LQ.length = (i - LP.length - 2 - LQ.length) + 1 + 1 by omega, List.getElem?_cons_succ, List.getElem?_cons_succ]
end
theorem ads_suf {t : Int} : ∀ (A : List Int) {B : List Int}, ads t (A ++ B) → ads t B
  | [], _, h => h
  | [a], [], _ => trivial
  | [a], b :: B, h => h.2
  | a :: b :: A, B, h => ads_suf (b :: A) h.2
theorem ads_pre {t : Int} : ∀ {A B : List Int}, ads t (A ++ B) → ads t A
  | [], _, _ => trivial
  | [a], _, _ => trivial
  | a :: b :: A, B, h => ⟨h.1, ads_pre (A := b :: A) h.2⟩
theorem lsD_ne {p q : Int} : ∀ {A : List Int}, A ≠ [] → lsD A p = lsD A q
  | [], h => absurd rfl h
  | a :: A, _ => rfl
theorem gw_rel : ∀ (r : Nat) (row L : List Int), GL r row L → (∀ x ∈ row, 0 < x) → ∀ (A : List Int) (X : Int) (R : List Int) (j k : Nat), row = A ++ X :: R → X ≤ lsD A X → Tl R j X k X → L.getD A.length 0 + k ≤ L.getD (A.length + 1 + j) 0 ∧ L.getD (A.length + 1 + j) 0 ≤ L.getD A.length 0 + k + 1
  | 0, row, L, hg, hpos, A, X, R, j, k, hr, hl, ht => by
    have h1 := hg.1
    rw [hr, List.length_append, List.length_cons] at h1
    have : R = [] := List.length_eq_zero_iff.mp (by omega)
    rw [this] at ht
    exact ht.elim
  | r + 1, row, L, hg, hpos, A, X, R, j, k, hr, hl, ht => by
    obtain ⟨P, Q, u, v, D, LP, LQ, l, LD, e1, e2, n1, n2, n3, ⟨o1, o2, o3, o4⟩, hg'⟩ := hg
    have hpos1 : ∀ x ∈ P ++ (Q ++ u :: v :: D), 0 < x := fun x hx => hpos x (by rw [e1]; exact hx)
    have hu0 : 0 < u := hpos1 u (by simp)
    have hv0 : 0 < v := hpos1 v (by simp)
    have hpos' : ∀ x ∈ P ++ (u + v) :: (Q ++ D), 0 < x := fun x hx => by
      simp only [List.mem_append, List.mem_cons] at hx
      rcases hx with h | h | h | h
      · exact hpos1 x (by simp [h])
      · omega
      · exact hpos1 x (by simp [h])
      · exact hpos1 x (by simp [h])
    have ih := gw_rel r _ _ hg' hpos'
    have hads := dsc_ads _ o3
    have hls := dsc_last _ o3 (v + 1) (by omega)
    have hTD : ∀ t, hdG t (u :: v :: D) → hdG t D := fun t h => hdG_mono (by have : t < u := h; omega) o4
    subst e2
    rw [hr] at e1
    rcases app_split e1.symm with ⟨P2, p1, p2⟩ | ⟨A2, p1, p2⟩
    · -- the heavy one is among those that are not jumped over
      have hrow : P ++ (u + v) :: (Q ++ D) = A ++ X :: (P2 ++ (u + v) :: (Q ++ D)) := by
        rw [p1]
        simp
      have hPl : P.length = A.length + 1 + P2.length := by
        rw [p1]
        simp
        omega
      have hland : u + v ≤ lsD P2 X := by
        rw [p1, lsD_app] at o2
        exact o2
      have hlast : v < lsD Q (lsD P2 X) := by
        rw [p1, lsD_app, lsD_app] at hls
        exact hls
      have hlX : lsD P2 X ≤ X ∨ True := .inr trivial
      rw [p2] at ht
      rw [ix1 (l := l) (show A.length < LP.length by omega)]
      by_cases h1 : j < P2.length
      · have ht2 : Tl (P2 ++ (u + v) :: (Q ++ D)) j X k X := Tl_tail (fun t h => by
          cases Q with
          | nil => have h' : t < u := h; show t < u + v; omega
          | cons z Q' => have h' : t < z := h; have := o1 z (.head _); show t < u + v; omega) P2 h1 ht
        have := ih A X _ j k hrow hl ht2
        rw [ix1 (l := l) (show A.length + 1 + j < LP.length by omega)]
        exact this
      · obtain ⟨j2, rfl⟩ : ∃ j2, j = P2.length + j2 := ⟨j - P2.length, by omega⟩
        by_cases h2 : j2 < Q.length
        · match Q, o1, h2, n2, hrow, ht, hlast, ih with
          | z :: Q', o1, h2, n2, hrow, ht, hlast, ih =>
            have hz := o1 z (.head _)
            have ht2 : Tl (P2 ++ (u + v) :: z :: (Q' ++ u :: v :: D)) (P2.length + (j2 + 1)) X k X := Tl_ctx P2 (Int.le_refl _) (fun t' k' g1 g2 => by
              cases Q' with
              | nil => exact Tl_ins g1 hland hz (show u < u + v by omega) g2
              | cons y Q'' => exact Tl_ins g1 hland hz (o1 y (.tail _ (.head _))) g2) ht
            have e3 : P2 ++ (u + v) :: z :: (Q' ++ u :: v :: D) = (P2 ++ (u + v) :: z :: Q') ++ u :: v :: D := by simp
            rw [e3] at ht2
            have ht3 := Tl_tail hTD (P2 ++ (u + v) :: z :: Q') (by simp at h2 ⊢; omega) ht2
            have e4 : (P2 ++ (u + v) :: z :: Q') ++ D = P2 ++ (u + v) :: (z :: Q' ++ D) := by simp
            rw [e4] at ht3
            have := ih A X _ _ k hrow hl ht3
            rw [ix2 (l := l) (show LP.length ≤ A.length + 1 + (P2.length + j2) by omega) (by omega)]
            rw [show A.length + 1 + (P2.length + (j2 + 1)) = A.length + 1 + (P2.length + j2) + 1 by omega] at this
            exact this
        · by_cases h3 : j2 = Q.length ∨ j2 = Q.length + 1
          · obtain ⟨q, hq, ht2⟩ := Tl_ctxC (j' := 0) (T' := (u + v) :: (Q ++ D)) P2 (Int.le_refl _) (fun t' k' g1 g2 => Tl_cons hu0 hv0 o4 Q g1 hlast h3 o1 hland g2) ht
            have := ih A X _ _ q hrow hl ht2
            rw [show A.length + 1 + (P2.length + 0) = LP.length by omega, ix3'] at this
            rw [ix3 (by omega)]
            omega
          · obtain ⟨j3, rfl⟩ : ∃ j3, j2 = Q.length + (j3 + 2) := ⟨j2 - Q.length - 2, by omega⟩
            have goal : ∀ m, m = P2.length + (Q.length + (j3 + 1)) → Tl (P2 ++ (u + v) :: (Q ++ D)) m X k X → (LP ++ l :: (LQ ++ LD)).getD A.length 0 + k ≤ (LP ++ (LQ ++ (l + 1) :: (l + 1) :: LD)).getD (A.length + 1 + (P2.length + (Q.length + (j3 + 2)))) 0 ∧ (LP ++ (LQ ++ (l + 1) :: (l + 1) :: LD)).getD (A.length + 1 + (P2.length + (Q.length + (j3 + 2)))) 0 ≤ (LP ++ l :: (LQ ++ LD)).getD A.length 0 + k + 1 := by
              intro m hm ht2
              have := ih A X _ _ k hrow hl ht2
              rw [ix4 (l := l) (by omega), show A.length + 1 + (P2.length + (Q.length + (j3 + 2))) - 1 = A.length + 1 + m by omega]
              exact this
            match Q, o1, n2, hrow, ht, hlast, ih, goal with
            | [], o1, n2, hrow, ht, hlast, ih, goal =>
              have ht' : Tl (P2 ++ u :: v :: D) (P2.length + (j3 + 2)) X k X := by
                rw [show P2.length + (j3 + 2) = P2.length + (([] : List Int).length + (j3 + 2)) by simp]
                exact ht
              refine goal (P2.length + (j3 + 1)) (by simp) ?_
              exact Tl_ctx P2 (Int.le_refl _) (fun t' k' g1 g2 => Tl_repl hu0 hv0 g1 hland o4 g2) ht'
            | z :: Q', o1, n2, hrow, ht, hlast, ih, goal =>
              have hz := o1 z (.head _)
              have ht2 : Tl (P2 ++ (u + v) :: z :: (Q' ++ u :: v :: D)) (P2.length + ((z :: Q').length + (j3 + 2) + 1)) X k X := Tl_ctx P2 (Int.le_refl _) (fun t' k' g1 g2 => by
                cases Q' with
                | nil => exact Tl_ins g1 hland hz (show u < u + v by omega) g2
                | cons y Q'' => exact Tl_ins g1 hland hz (o1 y (.tail _ (.head _))) g2) ht
              have e3 : P2 ++ (u + v) :: z :: (Q' ++ u :: v :: D) = (P2 ++ (u + v) :: z :: Q') ++ u :: v :: D := by simp
              rw [e3, show P2.length + ((z :: Q').length + (j3 + 2) + 1) = (P2 ++ (u + v) :: z :: Q').length + (j3 + 2) by simp; omega] at ht2
              have hl3 : lsD (P2 ++ (u + v) :: z :: Q') X = lsD Q' z := by
                rw [lsD_app]
                rfl
              have ht3 := Tl_ctx (P2 ++ (u + v) :: z :: Q') (T' := D) (j' := j3) (Int.le_refl _) (fun t' k' g1 g2 => Tl_del hv0 hu0 g1 (by rw [hl3]; exact hlast) o4 g2) ht2
              have e4 : (P2 ++ (u + v) :: z :: Q') ++ D = P2 ++ (u + v) :: (z :: Q' ++ D) := by simp
              rw [e4] at ht3
              exact goal _ (by simp; omega) ht3
    · rcases app_split p2 with ⟨Q2, q1, q2⟩ | ⟨A3, q1, q2⟩
      · -- the heavy one is jumped over
        have hrow : P ++ (u + v) :: (Q ++ D) = (P ++ (u + v) :: A2) ++ X :: (Q2 ++ D) := by
          rw [q1]
          simp
        have hX : X < u + v := o1 X (by rw [q1]; simp)
        have hQl : Q.length = A2.length + 1 + Q2.length := by
          rw [q1]
          simp
          omega
        have hAl : A.length = P.length + A2.length := by rw [p1, List.length_append]
        have hl2 : X ≤ lsD (P ++ (u + v) :: A2) X := by
          have e : lsD (P ++ (u + v) :: A2) X = lsD A2 (u + v) := by
            rw [lsD_app]
            rfl
          rw [e]
          cases A2 with
          | nil => show X ≤ u + v; omega
          | cons y A2' =>
            rw [p1, lsD_app] at hl
            exact hl
        have hlast : v < lsD Q2 X := by
          rw [q1, lsD_app, lsD_app] at hls
          exact hls
        have hl4 : (P ++ (u + v) :: A2).length = A.length + 1 := by
          simp
          omega
        rw [q2] at ht
        rw [ix2 (l := l) (show LP.length ≤ A.length by omega) (by omega)]
        by_cases h1 : j < Q2.length
        · have ht2 := Tl_tail hTD Q2 h1 ht
          have := ih _ X _ j k hrow hl2 ht2
          rw [hl4] at this
          rw [ix2 (l := l) (show LP.length ≤ A.length + 1 + j by omega) (by omega), show A.length + 1 + j + 1 = A.length + 1 + 1 + j by omega]
          exact this
        · by_cases h3 : j = Q2.length ∨ j = Q2.length + 1
          · have hk : k = 0 := by
              refine Nat.le_zero.mp (Nat.not_lt.mp fun hk => ?_)
              have := Tl_LT hu0 hv0 Q2 (Int.le_refl _) hlast h3 hk ht
              omega
            subst hk
            have had : ads (u + v) (Q ++ [u]) := ads_suf P (by rw [← List.append_assoc]; exact hads)
            rw [q1] at had
            have had1 : ads (u + v) ((u + v) :: (A2 ++ [X])) := by
              have h5 : ads (u + v) (A2 ++ [X]) := by
                have : A2 ++ X :: Q2 ++ [u] = (A2 ++ [X]) ++ (Q2 ++ [u]) := by simp
                rw [this] at had
                exact ads_pre had
              cases A2 with
              | nil =>
                have := hpos1 X (by rw [q1]; simp)
                exact ⟨by omega, trivial⟩
              | cons y A2' =>
                have := hpos1 y (by rw [q1]; simp)
                exact ⟨by omega, h5⟩
            have hXn : hdG (u + v - X) (Q2 ++ D) := by
              cases Q2 with
              | nil =>
                have hvX : v < X := hlast
                exact hdG_mono (by omega) o4
              | cons y Q2' =>
                have h6 : ads (u + v) (X :: y :: (Q2' ++ [u])) := ads_suf A2 (by simpa using had)
                have h7 : u + v < X + y := h6.1
                show u + v - X < y
                omega
            have ht2 : Tl (A2 ++ X :: (Q2 ++ D)) (A2.length + 0) (u + v) 0 (u + v) := by
              refine Tl_pre A2 (ads_pre (B := [X]) had1) (fun z hz => o1 z (by rw [q1]; simp [hz])) ?_
              unfold Tl
              refine ⟨?_, rfl, hX, hXn⟩
              have hX0 := hpos1 X (by rw [q1]; simp)
              have key : ∀ (B : List Int) (p : Int), ads (u + v) (p :: (B ++ [X])) → u + v < lsD B p + X := by
                intro B
                induction B with
                | nil => intro p h; exact h.1
                | cons b B ihB => intro p h; exact ihB b h.2
              exact key A2 _ had1
            have hrow2 : P ++ (u + v) :: (Q ++ D) = P ++ (u + v) :: (A2 ++ X :: (Q2 ++ D)) := by
              rw [q1]
              simp
            have := ih P (u + v) _ _ 0 hrow2 o2 ht2
            rw [show P.length = LP.length from n1.symm, ix3', show LP.length + 1 + (A2.length + 0) = A.length + 1 by omega] at this
            rw [ix3 (by omega)]
            omega
          · obtain ⟨j3, rfl⟩ : ∃ j3, j = Q2.length + (j3 + 2) := ⟨j - Q2.length - 2, by omega⟩
            have ht2 := Tl_ctx Q2 (T' := D) (j' := j3) (Int.le_refl _) (fun t' k' g1 g2 => Tl_del hv0 hu0 g1 hlast o4 g2) ht
            have := ih _ X _ _ k hrow hl2 ht2
            rw [hl4] at this
            rw [ix4 (l := l) (by omega), show A.length + 1 + (Q2.length + (j3 + 2)) - 1 = A.length + 1 + 1 + (Q2.length + j3) by omega]
            exact this
      · -- it is joined now, or behind that
        have hAl : A.length = P.length + Q.length + A3.length := by
          rw [p1, q1, List.length_append, List.length_append]
          omega
        have blk : ∀ {j' : Nat} {D' : List Int}, D = X :: D' → u + v = 2 * X → v = X → Tl D' j' X k X → (LP ++ l :: (LQ ++ LD)).getD LP.length 0 + ((k + 1 : Nat) : Int) ≤ (LP ++ l :: (LQ ++ LD)).getD (LP.length + 1 + (Q.length + (j' + 1))) 0 ∧ (LP ++ l :: (LQ ++ LD)).getD (LP.length + 1 + (Q.length + (j' + 1))) 0 ≤ (LP ++ l :: (LQ ++ LD)).getD LP.length 0 + ((k + 1 : Nat) : Int) + 1 := by
          intro j' D' hD h2X hvX hT
          have had : ads (u + v) (Q ++ [u]) := ads_suf P (by rw [← List.append_assoc]; exact hads)
          have had1 : ads (u + v) ((u + v) :: Q) := by
            cases Q with
            | nil => trivial
            | cons y Q' =>
              have := hpos1 y (by simp)
              exact ⟨by omega, ads_pre (A := y :: Q') had⟩
          have hlq : u + v < lsD Q (u + v) + X := by
            by_cases hQ : Q = []
            · rw [hQ]
              show u + v < u + v + X
              omega
            · have := hls
              rw [lsD_app, lsD_ne (q := u + v) hQ] at this
              omega
          have ht2 : Tl (Q ++ D) (Q.length + (j' + 1)) (u + v) (k + 1) (u + v) := by
            refine Tl_pre Q had1 o1 ?_
            rw [hD, Tl]
            exact ⟨hlq, .inr (.inr ⟨k, rfl, by omega, hT⟩)⟩
          have := ih P (u + v) _ _ (k + 1) rfl o2 ht2
          rw [show P.length = LP.length from n1.symm] at this
          exact this
        match A3, q1, q2, hAl with
        | [], q1, q2, hAl =>
          have q2' : u :: v :: D = X :: R := q2
          injection q2' with g1 g2
          subst g1
          rw [← g2] at ht
          have hAL : A.length = LP.length + LQ.length := by simp at hAl; omega
          rw [ix3 (i := A.length) (.inl hAL)]
          cases j with
          | zero =>
            rw [ix3 (i := A.length + 1 + 0) (.inr (by omega))]
            unfold Tl at ht
            omega
          | succ j =>
            rw [Tl] at ht
            have fin : ∀ {k' : Nat} {t p : Int}, Tl D j t k' p → 0 < t → t ≤ u → (t = u → p = u → v = u ∧ k' = k) → (p = t → t = u → p = u) → (t < u → False ∨ True) → (∃ y D', D = y :: D' ∧ u ≤ y ∧ (y < t ∨ (p = t ∧ y = t ∧ ∃ j', j = j' + 1 ∧ Tl D' j' t k' t))) := by
              intro k' t p hT ht0 htu _ _ _
              match D, o4, hT with
              | [], _, hT => exact hT.elim
              | y :: D', o4, hT =>
                have o4' : u - 1 < y := o4
                exact ⟨y, D', rfl, by omega, Tl_hd ht0 hT⟩
            rcases ht.2 with ⟨h3, h4⟩ | ⟨h3, h5, h4⟩ | ⟨k', h3, h5, h4⟩
            · obtain ⟨y, D', hD, hy, h6 | ⟨h6, h7, j', h8, h9⟩⟩ := fin h4 hu0 (Int.le_refl _) (fun _ h => by omega) (fun h1 h2 => by omega) (fun _ => .inr trivial)
              · omega
              · omega
            · obtain ⟨y, D', hD, hy, h6 | ⟨h6, h7, j', h8, h9⟩⟩ := fin h4 hu0 (Int.le_refl _) (fun _ h => ⟨h5, rfl⟩) (fun h1 h2 => by omega) (fun _ => .inr trivial)
              · omega
              · subst h8
                have := blk (by rw [hD, h7]) (by omega) h5 h9
                rw [ix3'] at this
                rw [ix4 (l := l) (by omega), show A.length + 1 + (j' + 1 + 1) - 1 = LP.length + 1 + (Q.length + (j' + 1)) by omega]
                omega
            · obtain ⟨y, D', hD, hy, h6 | ⟨h6, h7, j', h8, h9⟩⟩ := fin h4 hv0 (by omega) (fun h _ => by omega) (fun h1 h2 => by omega) (fun _ => .inr trivial)
              · omega
              · omega
        | [a], q1, q2, hAl =>
          have q2' : u :: v :: D = a :: X :: R := q2
          injection q2' with g1 g2
          injection g2 with g3 g4
          subst g1 g3
          rw [← g4] at ht
          have hul : v ≤ u := by
            rw [p1, q1, lsD_app, lsD_app] at hl
            exact hl
          have hAL : A.length = LP.length + LQ.length + 1 := by simp at hAl; omega
          rw [ix3 (i := A.length) (.inr hAL)]
          cases D with
          | nil => exact ht.elim
          | cons y D' =>
            have o4' : u - 1 < y := o4
            rcases Tl_hd hv0 ht with h6 | ⟨h6, h7, j', h8, h9⟩
            · omega
            · subst h8
              have := blk (j' := j') (D' := D') (by rw [h7]) (by omega) rfl h9
              rw [ix3'] at this
              rw [ix4 (l := l) (by omega), show A.length + 1 + (j' + 1) - 1 = LP.length + 1 + (Q.length + (j' + 1)) by omega]
              omega
        | a :: b :: D1, q1, q2, hAl =>
          have q2' : u :: v :: D = a :: b :: (D1 ++ X :: R) := q2
          injection q2' with g1 g2
          injection g2 with g3 g4
          subst g1 g3
          have hrow : P ++ (u + v) :: (Q ++ D) = (P ++ (u + v) :: (Q ++ D1)) ++ X :: R := by
            rw [g4]
            simp
          have hl2 : X ≤ lsD (P ++ (u + v) :: (Q ++ D1)) X := by
            have e : lsD (P ++ (u + v) :: (Q ++ D1)) X = lsD D1 (lsD Q (u + v)) := by
              rw [lsD_app]
              show lsD (Q ++ D1) (u + v) = _
              rw [lsD_app]
            rw [e]
            have hl' : X ≤ lsD D1 v := by
              rw [p1, q1, lsD_app, lsD_app] at hl
              exact hl
            cases D1 with
            | nil =>
              have hl3 : X ≤ v := hl'
              show X ≤ lsD Q (u + v)
              by_cases hQ : Q = []
              · rw [hQ]
                show X ≤ u + v
                omega
              · have := hls
                rw [lsD_app, lsD_ne (q := u + v) hQ] at this
                omega
            | cons d D1' => exact hl'
          have hAL : A.length = LP.length + LQ.length + 2 + D1.length := by simp at hAl; omega
          have hl4 : (P ++ (u + v) :: (Q ++ D1)).length = A.length - 1 := by
            simp
            omega
          have := ih _ X R j k hrow hl2 ht
          rw [hl4] at this
          rw [ix4 (l := l) (i := A.length) (by omega), ix4 (l := l) (i := A.length + 1 + j) (by omega), show A.length + 1 + j - 1 = A.length - 1 + 1 + j by omega]
          exact this
