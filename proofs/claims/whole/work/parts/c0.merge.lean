/-! the pure part: two rows laid together by weight -/
abbrev wv (v : vcT) : Int := yat v 26
def mgF : Nat → List vcT → List vcT → List (Bool × vcT)
  | 0, _, _ => []
  | j + 1, cs, ps => match cs, ps with
    | [], [] => []
    | c :: cs, [] => (true, c) :: mgF j cs []
    | [], p :: ps => (false, p) :: mgF j [] ps
    | c :: cs, p :: ps => if wv c ≤ wv p then (true, c) :: mgF j cs (p :: ps) else (false, p) :: mgF j (c :: cs) ps
/-- in order of weight -/
abbrev wsd (l : List vcT) : Prop := l.Pairwise (fun x y => wv x ≤ wv y)
/-- how many are from the first row -/
def cntT (l : List (Bool × vcT)) : Nat := l.countP (fun x => x.1)
theorem mg_cc {j : Nat} {c p : vcT} {cs ps : List vcT} : mgF (j + 1) (c :: cs) (p :: ps) = if wv c ≤ wv p then (true, c) :: mgF j cs (p :: ps) else (false, p) :: mgF j (c :: cs) ps := rfl
theorem mg_len : ∀ (j : Nat) (cs ps : List vcT), cs.length + ps.length = j → (mgF j cs ps).length = j
  | 0, _, _, _ => rfl
  | j + 1, [], [], h => by simp at h
  | j + 1, c :: cs, [], h => by
    have := mg_len j cs [] (by simpa using h)
    simp [mgF, this]
  | j + 1, [], p :: ps, h => by
    have := mg_len j [] ps (by simpa using h)
    simp [mgF, this]
  | j + 1, c :: cs, p :: ps, h => by
    rw [mg_cc]
    split
    · have := mg_len j cs (p :: ps) (by simp at h ⊢; omega)
      simp [this]
    · have := mg_len j (c :: cs) ps (by simp at h ⊢; omega)
      simp [this]
theorem mg_nil : ∀ (j : Nat) (cs : List vcT), cs.length = j → (mgF j cs []).map (·.2) = cs
  | 0, [], _ => rfl
  | 0, c :: cs, h => by simp at h
  | j + 1, [], h => by simp at h
  | j + 1, c :: cs, h => by
    have := mg_nil j cs (by simpa using h)
    simp [mgF, this]
theorem mg_nil' : ∀ (j : Nat) (ps : List vcT), ps.length = j → (mgF j [] ps).map (·.2) = ps
  | 0, [], _ => rfl
  | 0, c :: cs, h => by simp at h
  | j + 1, [], h => by simp at h
  | j + 1, p :: ps, h => by
    have := mg_nil' j ps (by simpa using h)
    simp [mgF, this]
/-- where an item is put -/
theorem pqN_skip {R : List vcT} {x : vcT} {w : Int} (h : wv x ≤ w) : ∀ r, r ≤ R.length → pqN (x :: R) w (r + 1) = pqN R w r + 1
  | 0, _ => by
    unfold pqN pqN
    rw [if_neg (by show ¬ w < wv x; omega)]
  | r + 1, hr => by
    have ih := pqN_skip (R := R) h r (by omega)
    have e : (x :: R).getD (r + 1) [] = R.getD r [] := rfl
    unfold pqN
    rw [e, ih]
    split <;> rfl
theorem pqI_skip {R : List vcT} {x v : vcT} (h : wv x ≤ wv v) : pqI (x :: R) v = x :: pqI R v := by
  unfold pqI
  have := pqN_skip (R := R) h R.length (Nat.le_refl _)
  rw [List.length_cons, this]
  rfl
theorem pqN_0 {R : List vcT} {w : Int} (h : ∀ x ∈ R, w < wv x) : ∀ r, r ≤ R.length → pqN R w r = 0
  | 0, _ => rfl
  | r + 1, hr => by
    have h1 : R.getD r [] ∈ R := by
      rw [List.getD_eq_getElem?_getD, List.getElem?_eq_getElem (by omega)]
      exact List.getElem_mem _
    unfold pqN
    rw [if_pos (h _ h1)]
    exact pqN_0 h r (by omega)
theorem pqI_first {R : List vcT} {v : vcT} (h : ∀ x ∈ R, wv v < wv x) : pqI R v = v :: R := by
  unfold pqI
  rw [pqN_0 h R.length (Nat.le_refl _)]
  rfl
theorem pqI_last : ∀ {R : List vcT} {v : vcT}, (∀ x ∈ R, wv x ≤ wv v) → pqI R v = R ++ [v]
  | [], v, _ => rfl
  | x :: R, v, h => by
    rw [pqI_skip (h x (.head _)), pqI_last (fun y hy => h y (.tail _ hy))]
    rfl
/-- one more item behind -/
theorem mg_more {q : vcT} : ∀ (j : Nat) (cs ps : List vcT), cs.length + ps.length = j → wsd cs → (∀ p ∈ ps, wv p ≤ wv q) → (mgF (j + 1) cs (ps ++ [q])).map (·.2) = pqI ((mgF j cs ps).map (·.2)) q
  | 0, [], [], _, _, _ => rfl
  | 0, c :: cs, ps, h, _, _ => by simp at h
  | 0, [], p :: ps, h, _, _ => by simp at h
  | j + 1, [], [], h, _, _ => by simp at h
  | j + 1, [], p :: ps, h, hc, hp => by
    have ih := mg_more j [] ps (by simpa using h) List.Pairwise.nil (fun x hx => hp x (.tail _ hx))
    have e : mgF (j + 1 + 1) [] (p :: ps ++ [q]) = (false, p) :: mgF (j + 1) [] (ps ++ [q]) := rfl
    have e2 : mgF (j + 1) [] (p :: ps) = (false, p) :: mgF j [] ps := rfl
    rw [e, e2, List.map_cons, List.map_cons, ih, pqI_skip (hp p (.head _))]
  | j + 1, c :: cs, [], h, hc, hp => by
    have hn := mg_nil j cs (by simpa using h)
    have e2 : (mgF (j + 1) (c :: cs) []).map (·.2) = c :: cs := mg_nil (j + 1) (c :: cs) (by simpa using h)
    rw [e2]
    have e : mgF (j + 1 + 1) (c :: cs) ([] ++ [q]) = if wv c ≤ wv q then (true, c) :: mgF (j + 1) cs [q] else (false, q) :: mgF (j + 1) (c :: cs) [] := rfl
    rw [e]
    by_cases h1 : wv c ≤ wv q
    · have ih := mg_more j cs [] (by simpa using h) (List.pairwise_cons.mp hc).2 hp
      rw [hn] at ih
      rw [if_pos h1, List.map_cons, pqI_skip h1]
      exact congrArg _ ih
    · rw [if_neg h1, List.map_cons, e2, pqI_first]
      intro x hx
      rcases List.mem_cons.mp hx with rfl | hx
      · omega
      · have := (List.pairwise_cons.mp hc).1 x hx
        omega
  | j + 1, c :: cs, p :: ps, h, hc, hp => by
    have e : mgF (j + 1 + 1) (c :: cs) (p :: ps ++ [q]) = if wv c ≤ wv p then (true, c) :: mgF (j + 1) cs (p :: ps ++ [q]) else (false, p) :: mgF (j + 1) (c :: cs) (ps ++ [q]) := rfl
    have e2 : mgF (j + 1) (c :: cs) (p :: ps) = if wv c ≤ wv p then (true, c) :: mgF j cs (p :: ps) else (false, p) :: mgF j (c :: cs) ps := rfl
    have hq := hp p (.head _)
    rw [e, e2]
    by_cases h1 : wv c ≤ wv p
    · have ih := mg_more j cs (p :: ps) (by simp at h ⊢; omega) (List.pairwise_cons.mp hc).2 hp
      rw [if_pos h1, if_pos h1, List.map_cons, List.map_cons, ih, pqI_skip (show wv c ≤ wv q by omega)]
    · have ih := mg_more j (c :: cs) ps (by simp at h ⊢; omega) hc (fun x hx => hp x (.tail _ hx))
      rw [if_neg h1, if_neg h1, List.map_cons, List.map_cons, ih, pqI_skip hq]
/-- both rows are within -/
theorem mg_mem : ∀ (j : Nat) (cs ps : List vcT) (x : Bool × vcT), x ∈ mgF j cs ps → x.2 ∈ cs ∨ x.2 ∈ ps
  | 0, _, _, _, h => by cases h
  | j + 1, [], [], x, h => by cases h
  | j + 1, c :: cs, [], x, h => by
    have h' : x ∈ (true, c) :: mgF j cs [] := h
    rcases List.mem_cons.mp h' with h1 | h1
    · exact .inl (by rw [h1]; exact .head _)
    · rcases mg_mem j cs [] x h1 with h2 | h2
      · exact .inl (.tail _ h2)
      · exact .inr h2
  | j + 1, [], p :: ps, x, h => by
    have h' : x ∈ (false, p) :: mgF j [] ps := h
    rcases List.mem_cons.mp h' with h1 | h1
    · exact .inr (by rw [h1]; exact .head _)
    · rcases mg_mem j [] ps x h1 with h2 | h2
      · exact .inl h2
      · exact .inr (.tail _ h2)
  | j + 1, c :: cs, p :: ps, x, h => by
    rw [mg_cc] at h
    split at h
    · rcases List.mem_cons.mp h with h1 | h1
      · exact .inl (by rw [h1]; exact .head _)
      · rcases mg_mem j cs (p :: ps) x h1 with h2 | h2
        · exact .inl (.tail _ h2)
        · exact .inr h2
    · rcases List.mem_cons.mp h with h1 | h1
      · exact .inr (by rw [h1]; exact .head _)
      · rcases mg_mem j (c :: cs) ps x h1 with h2 | h2
        · exact .inl h2
        · exact .inr (.tail _ h2)
theorem mg_sd : ∀ (j : Nat) (cs ps : List vcT), wsd cs → wsd ps → wsd ((mgF j cs ps).map (·.2))
  | 0, _, _, _, _ => List.Pairwise.nil
  | j + 1, [], [], _, _ => List.Pairwise.nil
  | j + 1, c :: cs, [], hc, hp => by
    have e : mgF (j + 1) (c :: cs) [] = (true, c) :: mgF j cs [] := rfl
    rw [e, List.map_cons]
    refine List.pairwise_cons.mpr ⟨fun y hy => ?_, mg_sd j cs [] (List.pairwise_cons.mp hc).2 hp⟩
    obtain ⟨x, hx, rfl⟩ := List.mem_map.mp hy
    rcases mg_mem j cs [] x hx with h2 | h2
    · exact (List.pairwise_cons.mp hc).1 _ h2
    · cases h2
  | j + 1, [], p :: ps, hc, hp => by
    have e : mgF (j + 1) [] (p :: ps) = (false, p) :: mgF j [] ps := rfl
    rw [e, List.map_cons]
    refine List.pairwise_cons.mpr ⟨fun y hy => ?_, mg_sd j [] ps hc (List.pairwise_cons.mp hp).2⟩
    obtain ⟨x, hx, rfl⟩ := List.mem_map.mp hy
    rcases mg_mem j [] ps x hx with h2 | h2
    · cases h2
    · exact (List.pairwise_cons.mp hp).1 _ h2
  | j + 1, c :: cs, p :: ps, hc, hp => by
    rw [mg_cc]
    split
    · rename_i h
      rw [List.map_cons]
      refine List.pairwise_cons.mpr ⟨fun y hy => ?_, mg_sd j cs (p :: ps) (List.pairwise_cons.mp hc).2 hp⟩
      obtain ⟨x, hx, rfl⟩ := List.mem_map.mp hy
      rcases mg_mem j cs (p :: ps) x hx with h2 | h2
      · exact (List.pairwise_cons.mp hc).1 _ h2
      · rcases List.mem_cons.mp h2 with h3 | h3
        · rw [h3]; exact h
        · have := (List.pairwise_cons.mp hp).1 _ h3
          show wv c ≤ _
          omega
    · rename_i h
      rw [List.map_cons]
      refine List.pairwise_cons.mpr ⟨fun y hy => ?_, mg_sd j (c :: cs) ps hc (List.pairwise_cons.mp hp).2⟩
      obtain ⟨x, hx, rfl⟩ := List.mem_map.mp hy
      rcases mg_mem j (c :: cs) ps x hx with h2 | h2
      · rcases List.mem_cons.mp h2 with h3 | h3
        · rw [h3]
          show wv p ≤ wv c
          omega
        · have := (List.pairwise_cons.mp hc).1 _ h3
          show wv p ≤ _
          omega
      · exact (List.pairwise_cons.mp hp).1 _ h2
/-- sums over the first ones -/
def vsF (s : Nat) (l : List vcT) : Int := (l.map (fun v => yat v s)).sum
theorem mg_take (s : Nat) : ∀ (j t : Nat) (cs ps : List vcT), cs.length + ps.length = j → t ≤ j → cntT ((mgF j cs ps).take t) ≤ t ∧ cntT ((mgF j cs ps).take t) ≤ cs.length ∧ t - cntT ((mgF j cs ps).take t) ≤ ps.length ∧ vsF s (((mgF j cs ps).map (·.2)).take t) = vsF s (cs.take (cntT ((mgF j cs ps).take t))) + vsF s (ps.take (t - cntT ((mgF j cs ps).take t)))
  | j, 0, cs, ps, _, _ => by
    rw [List.take_zero, List.take_zero]
    refine ⟨Nat.le_refl _, Nat.zero_le _, by simp [cntT], ?_⟩
    simp [cntT, vsF]
  | 0, t + 1, cs, ps, _, h => by omega
  | j + 1, t + 1, [], [], h, _ => by simp at h
  | j + 1, t + 1, c :: cs, [], h, ht => by
    have ih := mg_take s j t cs [] (by simpa using h) (by omega)
    have e : mgF (j + 1) (c :: cs) [] = (true, c) :: mgF j cs [] := rfl
    rw [e, List.map_cons, List.take_succ_cons, List.take_succ_cons]
    obtain ⟨n, hn⟩ : ∃ n, n = cntT ((mgF j cs []).take t) := ⟨_, rfl⟩
    have e2 : cntT ((true, c) :: (mgF j cs []).take t) = n + 1 := by rw [hn]; simp [cntT]
    rw [← hn] at ih
    rw [e2, List.take_succ_cons]
    refine ⟨by omega, by simp; omega, by simp at ih ⊢; omega, ?_⟩
    have i4 := ih.2.2.2
    rw [show t + 1 - (n + 1) = t - n by omega]
    unfold vsF at i4 ⊢
    rw [List.map_cons, List.map_cons, List.sum_cons, List.sum_cons, i4]
    dsimp only
    omega
  | j + 1, t + 1, [], p :: ps, h, ht => by
    have ih := mg_take s j t [] ps (by simpa using h) (by omega)
    have e : mgF (j + 1) [] (p :: ps) = (false, p) :: mgF j [] ps := rfl
    rw [e, List.map_cons, List.take_succ_cons, List.take_succ_cons]
    obtain ⟨n, hn⟩ : ∃ n, n = cntT ((mgF j [] ps).take t) := ⟨_, rfl⟩
    have e2 : cntT ((false, p) :: (mgF j [] ps).take t) = n := by rw [hn]; simp [cntT]
    rw [← hn] at ih
    rw [e2]
    refine ⟨by omega, ih.2.1, by simp; omega, ?_⟩
    have i4 := ih.2.2.2
    rw [show t + 1 - n = (t - n) + 1 by omega, List.take_succ_cons]
    unfold vsF at i4 ⊢
    rw [List.map_cons, List.map_cons, List.sum_cons, List.sum_cons, i4]
    dsimp only
    omega
  | j + 1, t + 1, c :: cs, p :: ps, h, ht => by
    have e : mgF (j + 1) (c :: cs) (p :: ps) = if wv c ≤ wv p then (true, c) :: mgF j cs (p :: ps) else (false, p) :: mgF j (c :: cs) ps := rfl
    rw [e]
    by_cases h1 : wv c ≤ wv p
    · have ih := mg_take s j t cs (p :: ps) (by simp at h ⊢; omega) (by omega)
      rw [if_pos h1, List.map_cons, List.take_succ_cons, List.take_succ_cons]
      obtain ⟨n, hn⟩ : ∃ n, n = cntT ((mgF j cs (p :: ps)).take t) := ⟨_, rfl⟩
      have e2 : cntT ((true, c) :: (mgF j cs (p :: ps)).take t) = n + 1 := by rw [hn]; simp [cntT]
      rw [← hn] at ih
      rw [e2, List.take_succ_cons]
      refine ⟨by omega, by simp; omega, by omega, ?_⟩
      have i4 := ih.2.2.2
      rw [show t + 1 - (n + 1) = t - n by omega]
      unfold vsF at i4 ⊢
      rw [List.map_cons, List.map_cons, List.sum_cons, List.sum_cons, i4]
      dsimp only
      omega
    · have ih := mg_take s j t (c :: cs) ps (by simp at h ⊢; omega) (by omega)
      rw [if_neg h1, List.map_cons, List.take_succ_cons, List.take_succ_cons]
      obtain ⟨n, hn⟩ : ∃ n, n = cntT ((mgF j (c :: cs) ps).take t) := ⟨_, rfl⟩
      have e2 : cntT ((false, p) :: (mgF j (c :: cs) ps).take t) = n := by rw [hn]; simp [cntT]
      rw [← hn] at ih
      rw [e2]
      refine ⟨by omega, ih.2.1, by simp; omega, ?_⟩
      have i4 := ih.2.2.2
      rw [show t + 1 - n = (t - n) + 1 by omega, List.take_succ_cons]
      unfold vsF at i4 ⊢
      rw [List.map_cons, List.map_cons, List.sum_cons, List.sum_cons, i4]
      dsimp only
      omega
/-- those that are not taken are heavier than the packages that are -/
theorem mg_heavy : ∀ (j t : Nat) (cs ps : List vcT), cs.length + ps.length = j → t ≤ j → wsd cs → wsd ps → ∀ c ∈ cs.drop (cntT ((mgF j cs ps).take t)), ∀ p ∈ ps.take (t - cntT ((mgF j cs ps).take t)), wv p < wv c
  | j, 0, cs, ps, _, _, _, _, c, _, p, hp => by
    rw [List.take_zero] at hp
    simp [cntT] at hp
  | 0, t + 1, cs, ps, _, h, _, _, _, _, _, _ => by omega
  | j + 1, t + 1, [], ps, h, _, _, _, c, hc, p, hp => by simp at hc
  | j + 1, t + 1, c0 :: cs, [], h, ht, _, _, c, hc, p, hp => by simp at hp
  | j + 1, t + 1, c0 :: cs, p0 :: ps, h, ht, hcs, hps, c, hc, p, hp => by
    have e : mgF (j + 1) (c0 :: cs) (p0 :: ps) = if wv c0 ≤ wv p0 then (true, c0) :: mgF j cs (p0 :: ps) else (false, p0) :: mgF j (c0 :: cs) ps := rfl
    rw [e] at hc hp
    by_cases h1 : wv c0 ≤ wv p0
    · have ih := mg_heavy j t cs (p0 :: ps) (by simp at h ⊢; omega) (by omega) (List.pairwise_cons.mp hcs).2 hps
      rw [if_pos h1, List.take_succ_cons] at hc hp
      obtain ⟨n, hn⟩ : ∃ n, n = cntT ((mgF j cs (p0 :: ps)).take t) := ⟨_, rfl⟩
      have e2 : cntT ((true, c0) :: (mgF j cs (p0 :: ps)).take t) = n + 1 := by rw [hn]; simp [cntT]
      rw [← hn] at ih
      rw [e2] at hc hp
      rw [show t + 1 - (n + 1) = t - n by omega] at hp
      exact ih c hc p hp
    · have ih := mg_heavy j t (c0 :: cs) ps (by simp at h ⊢; omega) (by omega) hcs (List.pairwise_cons.mp hps).2
      have tk := mg_take 0 j t (c0 :: cs) ps (by simp at h ⊢; omega) (by omega)
      rw [if_neg h1, List.take_succ_cons] at hc hp
      obtain ⟨n, hn⟩ : ∃ n, n = cntT ((mgF j (c0 :: cs) ps).take t) := ⟨_, rfl⟩
      have e2 : cntT ((false, p0) :: (mgF j (c0 :: cs) ps).take t) = n := by rw [hn]; simp [cntT]
      rw [← hn] at ih tk
      rw [e2] at hc hp
      rw [show t + 1 - n = (t - n) + 1 by omega, List.take_succ_cons] at hp
      rcases List.mem_cons.mp hp with h2 | h2
      · rw [h2]
        rcases List.mem_cons.mp (List.mem_of_mem_drop hc) with h3 | h3
        · rw [h3]; omega
        · have := (List.pairwise_cons.mp hcs).1 _ h3
          omega
      · exact ih c hc p h2
