/-! the reference's code in order: its numbers -/
def iqF (W L : List Int) : Nat → Nat → Nat
  | 0, q => q
  | j + 1, q => if q + 2 < L.length ∧ yat W (yat L ((q + 2 : Nat) : Int)) < yat W (yat L q) then iqF W L j (q + 1) else q
def itF (W L : List Int) (w : Int) : Nat → Nat
  | 0 => 0
  | t + 1 => if yat W (yat L t) < w then itF W L w t else t + 1
theorem iqF_rng (W L : List Int) : ∀ (j q : Nat), q + 1 < L.length → q ≤ iqF W L j q ∧ iqF W L j q + 1 < L.length
  | 0, q, h => ⟨Nat.le_refl _, h⟩
  | j + 1, q, h => by
    unfold iqF
    split
    · have := iqF_rng W L j (q + 1) (by omega)
      omega
    · exact ⟨Nat.le_refl _, h⟩
theorem itF_le (W L : List Int) (w : Int) : ∀ t, itF W L w t ≤ t
  | 0 => Nat.le_refl _
  | t + 1 => by
    have := itF_le W L w t
    unfold itF
    split <;> omega
/-- the joined one's weight, the line without its parts, the line with it -/
def iwF (W L : List Int) (q : Nat) : Int := yat W (yat L q) + yat W (yat L ((q + 1 : Nat) : Int))
def irF (L : List Int) (q : Nat) : List Int := (L.eraseIdx (q + 1)).eraseIdx q
def isF (next : Nat) (Q : jmT) (q : Nat) : jmT := (yput Q.1 next (iwF Q.1 Q.2.2 q), yput (yput Q.2.1 (yat Q.2.2 q) next) (yat Q.2.2 ((q + 1 : Nat) : Int)) next, sh (irF Q.2.2 q) (itF (yput Q.1 next (iwF Q.1 Q.2.2 q)) (irF Q.2.2 q) (iwF Q.1 Q.2.2 q) q) next)
def igF : Nat → Nat → jmT → jmT
  | 0, _, Q => Q
  | r + 1, next, Q => igF r (next + 1) (isF next Q (iqF Q.1 Q.2.2 Q.2.2.length 0))
theorem irF_len {L : List Int} {q : Nat} (hq : q + 1 < L.length) : (irF L q).length = L.length - 2 := by
  unfold irF
  rw [er_len (by rw [er_len hq]; omega), er_len hq]
  omega
theorem irF_at {L : List Int} {q i : Nat} (hq : q + 1 < L.length) : yat (irF L q) i = if i < q then yat L i else yat L ((i + 2 : Nat) : Int) := by
  unfold irF
  rw [yat_n, yat_n, yat_n, List.getD_eq_getElem?_getD, List.getD_eq_getElem?_getD, List.getD_eq_getElem?_getD, List.getElem?_eraseIdx, List.getElem?_eraseIdx, List.getElem?_eraseIdx]
  by_cases h1 : i < q
  · rw [if_pos h1, if_pos h1, if_pos (by omega)]
  · rw [if_neg h1, if_neg h1, if_neg (by omega)]
theorem sh_get {L : List Int} {t i : Nat} {s : Int} (ht : t ≤ L.length) : yat (sh L t s) i = if i < t then yat L i else if i = t then s else yat L ((i : Int) - 1) := by
  unfold sh
  have l1 : (L.take t).length = t := by simp; omega
  by_cases h1 : i < t
  · rw [if_pos h1, yat_app (by omega), yat_n, yat_n, List.getD_eq_getElem?_getD, List.getD_eq_getElem?_getD, List.getElem?_take, if_pos h1]
  · rw [if_neg h1, yat_apr (by omega), l1]
    by_cases h2 : i = t
    · rw [if_pos h2, show (i : Int) - t = ((0 : Nat) : Int) by omega]
      rfl
    · rw [if_neg h2, show (i : Int) - t = ((i - t - 1 + 1 : Nat) : Int) by omega, show (i : Int) - 1 = ((i - 1 : Nat) : Int) by omega, yat_n, yat_n, List.getD_eq_getElem?_getD, List.getD_eq_getElem?_getD, List.getElem?_cons_succ, List.getElem?_drop, show t + (i - t - 1) = i - 1 by omega]
theorem pre_of {X L : List Int} (hl : L.length ≤ X.length) (ha : ∀ i : Nat, i < L.length → yat X i = yat L i) : pre X L := by
  refine ⟨hl, List.ext_getElem (by simp; omega) fun i h1 h2 => ?_⟩
  have := ha i h2
  rw [yat_n, yat_n, List.getD_eq_getElem?_getD, List.getD_eq_getElem?_getD, List.getElem?_eq_getElem (by omega), List.getElem?_eq_getElem h2] at this
  rw [List.getElem_take]
  exact this
theorem pre_n {X L : List Int} (hp : pre X L) {i : Nat} (hi : i < L.length) : yat X i = yat L i := pre_at hp (by omega)
/-- what holds of the line: weights together T, numbers ahead of next -/
def ioI (next : Nat) (T : Int) (Q : jmT) : Prop := Q.1.length = 52 ∧ Q.2.1.length = 52 ∧ (∀ x ∈ Q.1, 0 ≤ x ∧ x ≤ T) ∧ (∀ x ∈ Q.2.2, 0 ≤ x ∧ x < next) ∧ (pw Q.1 Q.2.2).sum = T ∧ (∀ i : Nat, yat Q.2.1 i = 0 ∨ ((i : Int) < yat Q.2.1 i ∧ yat Q.2.1 i < next))
theorem pw_put {W L : List Int} {k : Nat} {v : Int} (h : ∀ x ∈ L, x ≠ k) : pw (yput W k v) L = pw W L := by
  unfold pw
  exact List.map_congr_left fun x hx => yat_ne (h x hx)
theorem pw_erS {W L : List Int} {q : Nat} (hq : q < L.length) : (pw W (L.eraseIdx q)).sum = (pw W L).sum - yat W (yat L q) := by
  rw [pw_er, er_sum (by rw [pw_len]; exact hq), pw_at hq]
theorem io_step {next q : Nat} {T : Int} {Q : jmT} (h : ioI next T Q) (hn : next < 52) (hq : q + 1 < Q.2.2.length) : ioI (next + 1) T (isF next Q q) ∧ (isF next Q q).2.2.length = Q.2.2.length - 1 ∧ 0 ≤ iwF Q.1 Q.2.2 q ∧ iwF Q.1 Q.2.2 q ≤ T := by
  obtain ⟨h1, h2, h3, h4, h5, h6⟩ := h
  have hnn : ∀ x ∈ pw Q.1 Q.2.2, 0 ≤ x := fun x hx => by
    obtain ⟨o, _, rfl⟩ := List.mem_map.mp hx
    exact yat_nn (fun x hx => (h3 x hx).1) _
  have hT : 0 ≤ T := by
    rw [← h5]
    exact sum_nn hnn
  have hL1 : ∀ x ∈ irF Q.2.2 q, 0 ≤ x ∧ x < next := fun x hx => h4 x (List.mem_of_mem_eraseIdx (List.mem_of_mem_eraseIdx hx))
  have e1 : (pw Q.1 (irF Q.2.2 q)).sum = T - iwF Q.1 Q.2.2 q := by
    unfold irF iwF
    rw [pw_erS (by rw [er_len hq]; omega), pw_erS hq, h5]
    have : yat (Q.2.2.eraseIdx (q + 1)) q = yat Q.2.2 q := by
      rw [yat_n, yat_n, List.getD_eq_getElem?_getD, List.getD_eq_getElem?_getD, List.getElem?_eraseIdx, if_pos (by omega)]
    rw [this]
    omega
  have e2 : 0 ≤ (pw Q.1 (irF Q.2.2 q)).sum := sum_nn fun x hx => by
    obtain ⟨o, _, rfl⟩ := List.mem_map.mp hx
    exact yat_nn (fun x hx => (h3 x hx).1) _
  have hw0 : 0 ≤ iwF Q.1 Q.2.2 q := by
    have := yat_nn (C := Q.1) (fun x hx => (h3 x hx).1) (yat Q.2.2 q)
    have := yat_nn (C := Q.1) (fun x hx => (h3 x hx).1) (yat Q.2.2 ((q + 1 : Nat) : Int))
    unfold iwF
    omega
  have a1 : 0 ≤ yat Q.2.2 q ∧ yat Q.2.2 q < next := h4 _ (yat_mem (by omega))
  have a2 : 0 ≤ yat Q.2.2 ((q + 1 : Nat) : Int) ∧ yat Q.2.2 ((q + 1 : Nat) : Int) < next := h4 _ (yat_mem (by omega))
  refine ⟨⟨by unfold isF; rw [yput_len]; exact h1, by unfold isF; rw [yput_len, yput_len]; exact h2, (show ∀ x ∈ yput Q.1 next (iwF Q.1 Q.2.2 q), 0 ≤ x ∧ x ≤ T from yput_all (Q := fun x => 0 ≤ x ∧ x ≤ T) h3 ⟨hw0, by omega⟩), ?_, ?_, fun i => ?_⟩, ?_, hw0, by omega⟩
  · intro x hx
    unfold isF at hx
    have := sh_all (Q := fun x => 0 ≤ x ∧ x < ((next + 1 : Nat) : Int)) (fun x hx => by have := hL1 x hx; omega) (by omega) x hx
    exact this
  · unfold isF
    rw [sh_sum, pw_put (fun x hx => by have := hL1 x hx; omega), e1, yat_pu (by omega)]
    omega
  · unfold isF
    show yat (yput (yput Q.2.1 (yat Q.2.2 q) next) (yat Q.2.2 ((q + 1 : Nat) : Int)) next) i = 0 ∨ _ < yat (yput (yput Q.2.1 (yat Q.2.2 q) next) (yat Q.2.2 ((q + 1 : Nat) : Int)) next) i ∧ yat (yput (yput Q.2.1 (yat Q.2.2 q) next) (yat Q.2.2 ((q + 1 : Nat) : Int)) next) i < ((next + 1 : Nat) : Int)
    by_cases c1 : (i : Int) = yat Q.2.2 ((q + 1 : Nat) : Int)
    · rw [c1, yat_pu (by rw [yput_len]; omega)]
      omega
    · rw [yat_ne c1]
      by_cases c2 : (i : Int) = yat Q.2.2 q
      · rw [c2, yat_pu (by omega)]
        omega
      · rw [yat_ne c2]
        have := h6 i
        omega
  · unfold isF
    rw [sh_len, irF_len hq]
    omega
def i0Q (ws : List Int) : jmT := (ws ++ List.replicate 26 0, List.replicate 52 0, posP ws)
def iQ (ws : List Int) : jmT := igF ((posP ws).length - 1) 26 (i0Q ws)
def inL (ws : List Int) : List Int := (List.range 26).map (fun (s : Nat) => if 0 < yat ws s then jdF (iQ ws).2.1 52 (yat (iQ ws).2.1 s) 0 else -1)
theorem inL_len (ws : List Int) : (inL ws).length = 26 := by unfold inL; simp
theorem inL_at (ws : List Int) {s : Nat} (hs : s < 26) : yat (inL ws) s = if 0 < yat ws s then jdF (iQ ws).2.1 52 (yat (iQ ws).2.1 s) 0 else -1 := by
  rw [yat_n]
  unfold inL
  rw [List.getD_eq_getElem?_getD, List.getElem?_map, List.getElem?_range hs]
  rfl
