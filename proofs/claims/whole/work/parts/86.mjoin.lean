/-! the reference's joining of the lightest: its numbers -/
theorem yat_app {X J : List Int} {i : Int} (h : i < (X.length : Int)) : yat (X ++ J) i = yat X i := by
  by_cases h0 : 0 ≤ i
  · rw [yat_i _ h0, yat_i _ h0, List.getD_eq_getElem?_getD, List.getD_eq_getElem?_getD, List.getElem?_append_left (by omega)]
  · rw [yat_out _ (.inl (by omega)), yat_out _ (.inl (by omega))]
theorem yput_app {X J : List Int} {i v : Int} (h : i < (X.length : Int)) : yput (X ++ J) i v = yput X i v ++ J := by
  by_cases h0 : 0 ≤ i
  · rw [yput_i _ _ h0, yput_i _ _ h0, List.set_append_left _ _ (by omega)]
  · unfold yput
    rw [if_neg h0, if_neg h0]
theorem yat_ne {X : List Int} {i k v : Int} (h : i ≠ k) : yat (yput X k v) i = yat X i := by
  by_cases h0 : 0 ≤ k
  · by_cases h1 : 0 ≤ i
    · rw [yput_i _ _ h0, yat_i _ h1, yat_i _ h1, List.getD_eq_getElem?_getD, List.getD_eq_getElem?_getD, List.getElem?_set_ne (by omega)]
    · rw [yat_out _ (.inl (by omega)), yat_out _ (.inl (by omega))]
  · unfold yput
    rw [if_neg h0]
theorem yput_all {Q : Int → Prop} {D : List Int} {k v : Int} (hD : ∀ x ∈ D, Q x) (h0 : Q v) : ∀ x ∈ yput D k v, Q x := by
  unfold yput
  split
  · exact set_all hD h0
  · exact hD
theorem sum_put : ∀ (X : List Int) (k : Nat) (v : Int), k < X.length → (yput X k v).sum = X.sum + v - yat X k
  | [], k, v, h => by simp at h
  | x :: t, 0, v, h => by
    rw [yput_n, yat_n, List.set_cons_zero, List.sum_cons, List.sum_cons]
    show v + t.sum = x + t.sum + v - x
    omega
  | x :: t, k + 1, v, h => by
    have ih := sum_put t k v (by simp at h; omega)
    rw [yput_n, yat_n] at ih ⊢
    rw [List.set_cons_succ, List.sum_cons, List.sum_cons, ih]
    show _ = x + t.sum + v - t.getD k 0
    omega
/-- the weights of those that are there -/
def dtS : List Int → List Int → Int
  | w :: W, b :: B => b * w + dtS W B
  | _, _ => 0
theorem dtS_putB : ∀ (W B : List Int) (k : Nat) (v : Int), k < B.length → W.length = B.length → dtS W (yput B k v) = dtS W B + (v - yat B k) * yat W k
  | [], [], k, v, h, _ => by simp at h
  | w :: W, b :: B, 0, v, h, _ => by
    rw [yput_n, yat_n, yat_n, List.set_cons_zero, dtS, dtS]
    show v * w + dtS W B = b * w + dtS W B + (v - b) * w
    rw [Int.sub_mul]
    omega
  | w :: W, b :: B, k + 1, v, h, hl => by
    have ih := dtS_putB W B k v (by simp at h; omega) (by simpa using hl)
    rw [yput_n, yat_n, yat_n] at ih ⊢
    rw [List.set_cons_succ, dtS, dtS, ih]
    show _ = b * w + dtS W B + (v - B.getD k 0) * W.getD k 0
    omega
theorem dtS_putW : ∀ (W B : List Int) (k : Nat) (v : Int), k < B.length → W.length = B.length → dtS (yput W k v) B = dtS W B + yat B k * (v - yat W k)
  | [], [], k, v, h, _ => by simp at h
  | w :: W, b :: B, 0, v, h, _ => by
    rw [yput_n, yat_n, yat_n, List.set_cons_zero, dtS, dtS]
    show b * v + dtS W B = b * w + dtS W B + b * (v - w)
    rw [Int.mul_sub]
    omega
  | w :: W, b :: B, k + 1, v, h, hl => by
    have ih := dtS_putW W B k v (by simp at h; omega) (by simpa using hl)
    rw [yput_n, yat_n, yat_n] at ih ⊢
    rw [List.set_cons_succ, dtS, dtS, ih]
    show _ = b * w + dtS W B + B.getD k 0 * (v - W.getD k 0)
    omega
theorem dtS_nn : ∀ (W B : List Int), (∀ x ∈ W, 0 ≤ x) → (∀ x ∈ B, 0 ≤ x) → 0 ≤ dtS W B
  | [], _, _, _ => by unfold dtS; exact Int.le_refl _
  | _ :: _, [], _, _ => by unfold dtS; exact Int.le_refl _
  | w :: W, b :: B, hW, hB => by
    have ih := dtS_nn W B (fun x hx => hW x (List.mem_cons_of_mem _ hx)) (fun x hx => hB x (List.mem_cons_of_mem _ hx))
    have := Int.mul_nonneg (hB b (List.mem_cons_self ..)) (hW w (List.mem_cons_self ..))
    unfold dtS
    omega
theorem sum_0 : ∀ (B : List Int), (∀ i : Nat, i < B.length → yat B i = 0) → B.sum = 0
  | [], _ => rfl
  | b :: B, h => by
    have h0 : b = 0 := h 0 (by simp)
    have ih := sum_0 B (fun i hi => by
      have := h (i + 1) (by simp; omega)
      rw [yat_n] at this ⊢
      exact this)
    rw [List.sum_cons, h0, ih]
    rfl
/-- the lightest that is there -/
def liF (W B : List Int) : Nat → Nat → Int → Int
  | 0, _, l => l
  | j + 1, k, l => liF W B j (k + 1) (if yat B k ≠ 0 ∧ (l < 0 ∨ yat W k < yat W l) then (k : Int) else l)
theorem liF_ok (W B : List Int) : ∀ (j k : Nat) (l : Int), -1 ≤ l → (0 ≤ l → l < k ∧ yat B l ≠ 0) → -1 ≤ liF W B j k l ∧ (0 ≤ liF W B j k l → liF W B j k l < ((k + j : Nat) : Int) ∧ yat B (liF W B j k l) ≠ 0) ∧ (liF W B j k l < 0 → l < 0 ∧ ∀ i : Nat, k ≤ i → i < k + j → yat B i = 0)
  | 0, k, l, h0, h1 => by
    unfold liF
    exact ⟨h0, fun h => ⟨by have := (h1 h).1; omega, (h1 h).2⟩, fun h => ⟨h, fun i hi hi2 => by omega⟩⟩
  | j + 1, k, l, h0, h1 => by
    unfold liF
    split
    · rename_i h2
      have ih := liF_ok W B j (k + 1) k (by omega) (fun _ => ⟨by omega, h2.1⟩)
      refine ⟨ih.1, fun h => ⟨by have := (ih.2.1 h).1; omega, (ih.2.1 h).2⟩, fun h => ?_⟩
      have := (ih.2.2 h).1
      omega
    · rename_i h2
      have ih := liF_ok W B j (k + 1) l h0 (fun h => ⟨by have := (h1 h).1; omega, (h1 h).2⟩)
      refine ⟨ih.1, fun h => ⟨by have := (ih.2.1 h).1; omega, (ih.2.1 h).2⟩, fun h => ?_⟩
      obtain ⟨h3, h4⟩ := ih.2.2 h
      refine ⟨h3, fun i hi hi2 => ?_⟩
      by_cases hik : i = k
      · subst hik
        by_cases h5 : yat B i = 0
        · exact h5
        · exact absurd ⟨h5, .inl h3⟩ h2
      · exact h4 i (by omega) (by omega)
abbrev jmT : Type := List Int × List Int × List Int
/-- so many parts of one tree -/
def jpF (next : Nat) : Nat → jmT → jmT
  | 0, q => q
  | p + 1, q => jpF next p (yput q.1 next (yat q.1 next + yat q.1 (liF q.1 q.2.2 next 0 (-1))), yput q.2.1 (liF q.1 q.2.2 next 0 (-1)) next, yput q.2.2 (liF q.1 q.2.2 next 0 (-1)) 0)
def jmF (by_ : Nat) : Nat → Nat → jmT → jmT
  | 0, _, q => q
  | r + 1, next, q => jmF by_ r (next + 1) ((jpF next by_ q).1, (jpF next by_ q).2.1, yput (jpF next by_ q).2.2 next 1)
/-- what holds while it is joined: t trees are there, all ahead of next, together of weight S with what next has -/
def jmI (N next : Nat) (t : Int) (S : Int) (q : jmT) : Prop := q.1.length = N ∧ q.2.1.length = N ∧ q.2.2.length = N ∧ (∀ x ∈ q.2.2, x = 0 ∨ x = 1) ∧ (∀ i : Nat, next ≤ i → yat q.2.2 i = 0) ∧ q.2.2.sum = t ∧ (∀ x ∈ q.1, 0 ≤ x ∧ x ≤ S) ∧ (∀ i : Nat, next < i → yat q.1 i = 0) ∧ dtS q.1 q.2.2 + yat q.1 next = S ∧ (∀ i : Nat, yat q.2.1 i = 0 ∨ ((i : Int) < yat q.2.1 i ∧ yat q.2.1 i ≤ next))
theorem jm_li {N next : Nat} {t S : Int} {q : jmT} (h : jmI N next t S q) (ht : 1 ≤ t) : 0 ≤ liF q.1 q.2.2 next 0 (-1) ∧ liF q.1 q.2.2 next 0 (-1) < next ∧ yat q.2.2 (liF q.1 q.2.2 next 0 (-1)) = 1 := by
  obtain ⟨h1, h2, h3, h4, h5, h6, h7, h8, h9, h10⟩ := h
  have hk := liF_ok q.1 q.2.2 next 0 (-1) (by omega) (fun h => by omega)
  obtain ⟨l, hl⟩ : ∃ l, l = liF q.1 q.2.2 next 0 (-1) := ⟨_, rfl⟩
  rw [← hl] at hk ⊢
  by_cases h0 : 0 ≤ l
  · have := hk.2.1 h0
    refine ⟨h0, by have := this.1; omega, ?_⟩
    have := yat_all (Q := fun x => x = 0 ∨ x = 1) h4 (.inl rfl) l
    omega
  · have h11 := (hk.2.2 (by omega)).2
    have h12 := sum_0 q.2.2 (fun i hi => by
      by_cases hin : i < next
      · exact h11 i (by omega) (by omega)
      · exact h5 i (by omega))
    omega
theorem jm_part {N next : Nat} {t S : Int} {q : jmT} (h : jmI N next t S q) (ht : 1 ≤ t) (hN : next < N) : jmI N next (t - 1) S (yput q.1 next (yat q.1 next + yat q.1 (liF q.1 q.2.2 next 0 (-1))), yput q.2.1 (liF q.1 q.2.2 next 0 (-1)) next, yput q.2.2 (liF q.1 q.2.2 next 0 (-1)) 0) := by
  obtain ⟨l0, l1, l2⟩ := jm_li h ht
  obtain ⟨h1, h2, h3, h4, h5, h6, h7, h8, h9, h10⟩ := h
  obtain ⟨l, hl⟩ := Int.eq_ofNat_of_zero_le l0
  rw [hl] at l1 l2 ⊢
  have e1 := yat_all (Q := fun x => 0 ≤ x ∧ x ≤ S) h7 (by
    have := dtS_nn q.1 q.2.2 (fun x hx => (h7 x hx).1) (fun x hx => by have := h4 x hx; omega)
    have h11 := yat_nn (C := q.1) (fun x hx => (h7 x hx).1) next
    omega)
  have d1 := dtS_putW q.1 q.2.2 next (yat q.1 next + yat q.1 l) (by omega) (by omega)
  have d2 := dtS_putB (yput q.1 next (yat q.1 next + yat q.1 l)) q.2.2 l 0 (by omega) (by rw [yput_len]; omega)
  rw [yat_ne (show (l : Int) ≠ next by omega), d1, h5 next (Nat.le_refl _), l2, Int.zero_mul] at d2
  have d3 := dtS_nn (yput q.1 next (yat q.1 next + yat q.1 l)) (yput q.2.2 l 0) (yput_all (fun x hx => (h7 x hx).1) (by have := e1 next; have := e1 l; omega)) (yput_all (fun x hx => by have := h4 x hx; omega) (Int.le_refl _))
  have d4 := yat_pu (xs := q.1) (i := next) (v := yat q.1 next + yat q.1 l) (by omega)
  refine ⟨by rw [yput_len]; exact h1, by rw [yput_len]; exact h2, by rw [yput_len]; exact h3, (show ∀ x ∈ yput q.2.2 l 0, x = 0 ∨ x = 1 from yput_all (Q := fun x => x = 0 ∨ x = 1) h4 (.inl rfl)), fun i hi => ?_, ?_, (show ∀ x ∈ yput q.1 next (yat q.1 next + yat q.1 l), 0 ≤ x ∧ x ≤ S from yput_all (Q := fun x => 0 ≤ x ∧ x ≤ S) h7 (by have := e1 next; have := e1 l; omega)), fun i hi => ?_, ?_, fun i => ?_⟩
  · show yat (yput q.2.2 l 0) i = 0
    rw [yat_ne (by omega)]
    exact h5 i hi
  · show (yput q.2.2 l 0).sum = t - 1
    rw [sum_put q.2.2 l 0 (by omega), l2]
    omega
  · show yat (yput q.1 next (yat q.1 next + yat q.1 l)) i = 0
    rw [yat_ne (by omega)]
    exact h8 i hi
  · show dtS (yput q.1 next (yat q.1 next + yat q.1 l)) (yput q.2.2 l 0) + yat (yput q.1 next (yat q.1 next + yat q.1 l)) next = S
    rw [d4]
    omega
  · show yat (yput q.2.1 l next) i = 0 ∨ ((i : Int) < yat (yput q.2.1 l next) i ∧ yat (yput q.2.1 l next) i ≤ next)
    by_cases hi : i = l
    · subst hi
      rw [yat_pu (by omega)]
      omega
    · rw [yat_ne (by omega)]
      exact h10 i
theorem jm_next {N next : Nat} {t S : Int} {q : jmT} (h : jmI N next t S q) (hN : next + 1 < N) : jmI N (next + 1) (t + 1) S (q.1, q.2.1, yput q.2.2 next 1) := by
  obtain ⟨h1, h2, h3, h4, h5, h6, h7, h8, h9, h10⟩ := h
  refine ⟨h1, h2, by rw [yput_len]; exact h3, (show ∀ x ∈ yput q.2.2 next 1, x = 0 ∨ x = 1 from yput_all (Q := fun x => x = 0 ∨ x = 1) h4 (.inr rfl)), fun i hi => ?_, ?_, h7, fun i hi => h8 i (by omega), ?_, fun i => ?_⟩
  · show yat (yput q.2.2 next 1) i = 0
    rw [yat_ne (by omega)]
    exact h5 i (by omega)
  · show (yput q.2.2 next 1).sum = t + 1
    rw [sum_put q.2.2 next 1 (by omega), h5 next (Nat.le_refl _)]
    omega
  · show dtS q.1 (yput q.2.2 next 1) + yat q.1 ((next + 1 : Nat) : Int) = S
    rw [dtS_putB q.1 q.2.2 next 1 (by omega) (by omega), h8 (next + 1) (by omega), h5 next (Nat.le_refl _), Int.sub_zero, Int.one_mul]
    omega
  · rcases h10 i with h11 | h11
    · exact .inl h11
    · exact .inr ⟨h11.1, by have := h11.2; show yat q.2.1 i ≤ ((next + 1 : Nat) : Int); omega⟩
/-- how deep from a place -/
def jdF (I : List Int) : Nat → Int → Int → Int
  | 0, _, c => c
  | f + 1, a, c => if 0 < a then jdF I f (yat I a) (c + 1) else c
def flF (ws : List Int) : List Int := ws.map (fun w => if 0 < w then 1 else 0)
/-- is there one without sign -/
def jd0 (b : Nat) (ws : List Int) : Int := if b = 3 ∧ abF ws % 2 = 0 then 1 else 0
def j0Q (b : Nat) (ws : List Int) : jmT := (0 :: ws ++ List.replicate (ws.length + 1) 0, List.replicate (2 * ws.length + 2) 0, jd0 b ws :: flF ws ++ List.replicate (ws.length + 1) 0)
def jrN (b : Nat) (ws : List Int) : Nat := ((abF ws + jd0 b ws - 1) / ((b : Int) - 1)).toNat
def jQ (b : Nat) (ws : List Int) : jmT := jmF b (jrN b ws) (ws.length + 1) (j0Q b ws)
def joF (b : Nat) (ws : List Int) : List Int := (List.range ws.length).map (fun (k : Nat) => if 0 < yat ws k then jdF (jQ b ws).2.1 (2 * ws.length + 2) (yat (jQ b ws).2.1 ((k : Int) + 1)) 0 else -1)
theorem joF_len (b : Nat) (ws : List Int) : (joF b ws).length = ws.length := by
  unfold joF
  simp
theorem joF_at (b : Nat) (ws : List Int) {k : Nat} (hk : k < ws.length) : yat (joF b ws) k = if 0 < yat ws k then jdF (jQ b ws).2.1 (2 * ws.length + 2) (yat (jQ b ws).2.1 ((k : Int) + 1)) 0 else -1 := by
  rw [yat_n]
  unfold joF
  rw [List.getD_eq_getElem?_getD, List.getElem?_map, List.getElem?_range hk]
  rfl
theorem flF_sum : ∀ ws : List Int, (flF ws).sum = abF ws
  | [] => rfl
  | x :: t => by
    show ((if 0 < x then 1 else 0) :: flF t).sum = (if 0 < x then 1 else 0) + abF t
    rw [List.sum_cons, flF_sum t]
theorem flF_dt : ∀ ws : List Int, (∀ x ∈ ws, 0 ≤ x) → dtS ws (flF ws) = ws.sum
  | [], _ => rfl
  | x :: t, h => by
    have h1 := h x (List.mem_cons_self ..)
    show (if 0 < x then 1 else 0) * x + dtS t (flF t) = _
    rw [List.sum_cons, flF_dt t (fun y hy => h y (List.mem_cons_of_mem _ hy))]
    split <;> omega
theorem dtS_app : ∀ (W B W2 B2 : List Int), W.length = B.length → dtS (W ++ W2) (B ++ B2) = dtS W B + dtS W2 B2
  | [], [], W2, B2, _ => by
    rw [List.nil_append, List.nil_append]
    show dtS W2 B2 = 0 + dtS W2 B2
    rw [Int.zero_add]
  | w :: W, b :: B, W2, B2, h => by
    rw [List.cons_append, List.cons_append, dtS, dtS, dtS_app W B W2 B2 (by simpa using h)]
    omega
theorem dtS_rep (n : Nat) : dtS (List.replicate n 0) (List.replicate n 0) = 0 := by
  induction n with
  | zero => rfl
  | succ n ih => rw [List.replicate_succ, dtS, ih]; rfl
theorem yat_rep (n : Nat) (i : Int) : yat (List.replicate n 0) i = 0 := by
  have := yat_all (Q := fun x => x = 0) (D := List.replicate n (0 : Int)) (fun x hx => List.eq_of_mem_replicate hx) rfl i
  exact this
theorem yat_apr {X Y : List Int} {i : Int} (h : (X.length : Int) ≤ i) : yat (X ++ Y) i = yat Y (i - X.length) := by
  rw [yat_i _ (by omega), yat_i _ (by omega), List.getD_eq_getElem?_getD, List.getD_eq_getElem?_getD, List.getElem?_append_right (by omega)]
  rw [show i.toNat - X.length = (i - (X.length : Int)).toNat by omega]
theorem j0_I {b : Nat} {ws : List Int} (hnn : ∀ x ∈ ws, 0 ≤ x) (hb : b = 2 ∨ b = 3) : jmI (2 * ws.length + 2) (ws.length + 1) (abF ws + jd0 b ws) ws.sum (j0Q b ws) := by
  have hd : jd0 b ws = 0 ∨ jd0 b ws = 1 := by unfold jd0; split <;> omega
  have fl : (flF ws).length = ws.length := List.length_map _
  have hs := sum_nn hnn
  unfold j0Q
  refine ⟨by simp; omega, by simp, by simp [fl]; omega, ?_, fun i hi => ?_, ?_, ?_, fun i hi => ?_, ?_, fun i => .inl (yat_rep _ _)⟩
  · intro x hx
    rcases List.mem_append.mp hx with hx | hx
    · rcases List.mem_cons.mp hx with rfl | hx
      · exact hd
      · obtain ⟨w, _, rfl⟩ := List.mem_map.mp hx
        split
        · exact .inr rfl
        · exact .inl rfl
    · exact .inl (List.eq_of_mem_replicate hx)
  · show yat (jd0 b ws :: flF ws ++ List.replicate (ws.length + 1) 0) i = 0
    rw [yat_apr (by simp [fl]; omega)]
    exact yat_rep _ _
  · show (jd0 b ws :: flF ws ++ List.replicate (ws.length + 1) 0).sum = _
    rw [List.sum_append, List.sum_cons, flF_sum, sum_0 (List.replicate (ws.length + 1) 0) (fun i _ => yat_rep _ _)]
    omega
  · intro x hx
    rcases List.mem_append.mp hx with hx | hx
    · rcases List.mem_cons.mp hx with rfl | hx
      · exact ⟨Int.le_refl _, hs⟩
      · refine ⟨hnn x hx, ?_⟩
        obtain ⟨s, t, rfl⟩ := List.append_of_mem hx
        have h1 := sum_nn (l := s) (fun y hy => hnn y (List.mem_append_left _ hy))
        have h2 := sum_nn (l := t) (fun y hy => hnn y (List.mem_append_right _ (List.mem_cons_of_mem _ hy)))
        rw [List.sum_append, List.sum_cons]
        omega
    · rw [List.eq_of_mem_replicate hx]
      exact ⟨Int.le_refl _, hs⟩
  · show yat (0 :: ws ++ List.replicate (ws.length + 1) 0) i = 0
    rw [yat_apr (by simp; omega)]
    exact yat_rep _ _
  · show dtS (0 :: ws ++ List.replicate (ws.length + 1) 0) (jd0 b ws :: flF ws ++ List.replicate (ws.length + 1) 0) + yat (0 :: ws ++ List.replicate (ws.length + 1) 0) ((ws.length + 1 : Nat) : Int) = ws.sum
    rw [dtS_app _ _ _ _ (by simp [fl]), dtS_rep, dtS, flF_dt ws hnn, yat_apr (by simp), yat_rep, Int.mul_zero]
    omega
