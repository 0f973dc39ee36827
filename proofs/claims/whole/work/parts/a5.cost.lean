/-! the pure part: what the least code costs, its depths, its shares -/
theorem sF_add (f g : Nat → Int) : ∀ (k a : Nat), sF (fun i => f i + g i) a k = sF f a k + sF g a k
  | 0, _ => rfl
  | k + 1, a => by
    rw [sF, sF, sF, sF_add f g k (a + 1)]
    omega
theorem sF_shift (f : Nat → Int) (c : Nat) : ∀ (k a : Nat), sF f (a + c) k = sF (fun i => f (i + c)) a k
  | 0, _ => rfl
  | k + 1, a => by
    rw [sF, sF, ← sF_shift f c k (a + 1), show a + c + 1 = a + 1 + c by omega]
theorem sF_mono {f g : Nat → Int} : ∀ (k a : Nat), (∀ i, a ≤ i → i < a + k → f i ≤ g i) → sF f a k ≤ sF g a k
  | 0, _, _ => Int.le_refl _
  | k + 1, a, h => by
    have h1 := h a (Nat.le_refl _) (by omega)
    have h2 := sF_mono k (a + 1) (fun i h1 h2 => h i (by omega) (by omega))
    rw [sF, sF]
    omega
theorem sF_0 : ∀ (k a : Nat), sF (fun _ => 0) a k = 0
  | 0, _ => rfl
  | k + 1, a => by rw [sF, sF_0 k (a + 1)]; rfl
theorem sF_upd {f g : Nat → Int} {c : Nat} : ∀ (k a : Nat), a ≤ c → c < a + k → (∀ i, i ≠ c → f i = g i) → sF f a k = sF g a k + (f c - g c)
  | 0, _, _, _, _ => by omega
  | k + 1, a, h1, h2, h => by
    rw [sF, sF]
    by_cases hc : c = a
    · subst hc
      rw [sF_congr (f := f) (g := g) k (c + 1) (fun i g1 g2 => h i (by omega))]
      omega
    · rw [sF_upd k (a + 1) (by omega) (by omega) h, h a (by omega)]
      omega
theorem list_sF (g : Int → Int) : ∀ l : List Int, (l.map g).sum = sF (fun i => g (l.getD i 0)) 0 l.length
  | [] => rfl
  | x :: t => by
    rw [List.map_cons, List.sum_cons, List.length_cons, sF, list_sF g t, sF_shift _ 1 t.length 0]
    rfl
theorem pos_sF (C : List Int) (g : Int → Int) : ∀ (j p : Nat) (l : List Int), p + j = C.length → (∀ s : Nat, ¬ 0 < yat C s → g s = 0) → ((posF C j p l).map g).sum = (l.map g).sum + sF (fun (s : Nat) => g s) p j
  | 0, p, l, hp, h => by
    unfold posF
    rw [sF]
    omega
  | j + 1, p, l, hp, h => by
    unfold posF
    rw [pos_sF C g j (p + 1) _ (by omega) h, sF]
    split
    · rw [List.map_append, List.sum_append, List.map_cons, List.sum_cons]
      show _ + (g p + 0) + _ = _
      omega
    · rename_i h1
      rw [h p h1]
      omega
theorem perm_sum {l l' : List Int} (h : l.Perm l') : l.sum = l'.sum := by
  induction h with
  | nil => rfl
  | cons x _ ih => rw [List.sum_cons, List.sum_cons, ih]
  | swap x y l => rw [List.sum_cons, List.sum_cons, List.sum_cons, List.sum_cons]; omega
  | trans _ _ ih1 ih2 => exact ih1.trans ih2
theorem sort_sF (C : List Int) (g : Int → Int) (h : ∀ s : Nat, ¬ 0 < yat C s → g s = 0) : ((sortP C).map g).sum = sF (fun (s : Nat) => g s) 0 C.length := by
  rw [perm_sum ((sortP_posP C).map g)]
  have := pos_sF C g C.length 0 [] (by omega) h
  rw [List.map_nil, List.sum_nil, Int.zero_add] at this
  exact this
theorem csF_sF (C L : List Int) : ∀ (j s : Nat) (b : Int), csF C L j s b = b + sF (fun (s : Nat) => yat C s * yat L s) s j
  | 0, s, b => by rw [csF, sF]; omega
  | j + 1, s, b => by
    rw [csF, csF_sF C L j, sF]
    omega
theorem drop_sF (W : List Int) : ∀ (k a : Nat), a + k = W.length → (W.drop a).sum = sF (fun (i : Nat) => yat W i) a k
  | 0, a, h => by
    rw [drop_end (by omega)]
    rfl
  | k + 1, a, h => by
    rw [drop_yat (show a < W.length by omega), List.sum_cons, drop_sF W k (a + 1) (by omega), sF]
section
variable {C : List Int} {tb : Int}
theorem jlO_0 : jlO 0 C = sortP C := by
  unfold jlO
  exact if_neg (fun h => absurd h.1 (by decide))
theorem hlL_out (htb : tb = 0 ∨ tb = 1) {s N : Nat} (hs : s < N) (h : ¬ 0 < yat C s) : yat (hlL tb C N) s = -1 := by
  rw [hlL, spF_out _ _ 0 _ s (fun h2 => ?_)]
  · rw [yat_n, getD_get (by simp; exact hs), List.getElem_replicate]
  · rcases (jlO_mem (C := C) (tb := tb) s).mp h2 with h3 | h3
    · omega
    · exact h h3.2.2
/-- what runs of joining keep -/
theorem hl_pot (htb : tb = 0 ∨ tb = 1) (hnn : ∀ x ∈ C, 0 ≤ x) (h1 : 1 ≤ abF C) (f g d e : Nat → Int) (hf : ∀ i p : Nat, yat (hlD tb C) i = yat (hlD tb C) p + 1 → f i = d p * yat (jlQ tb C).2.2.1 i + e p) (hg : ∀ p : Nat, (jlO tb C).length ≤ p → p < (jlQ tb C).2.2.1.length → d p * yat (jlQ tb C).2.2.1 p + ((2 + tb).toNat : Int) * e p = f p + g p) : ∃ m r, m = (jlO tb C).length + r ∧ m = (jlQ tb C).2.2.1.length ∧ 1 ≤ m ∧ yat (hlD tb C) ((m - 1 : Nat) : Int) = 0 ∧ sF f 0 (jlO tb C).length = f (m - 1) + sF g (jlO tb C).length r := by
  obtain ⟨m, r, r1, r2, r3, r4, r5, r6, r7, r8, r9, r10⟩ := hl_run htb hnn h1
  have hl := pw_len C (jlO tb C)
  have hcl := (jOut_cl (n := (jlO tb C).length) (t := (2 + tb).toNat) (by omega) r 0 (jlO tb C).length (pw C (jlO tb C)) (List.replicate (jlO tb C).length (-1)) (Nat.zero_le _) (Nat.le_refl _) (by omega) (by simp [hl]) (by rw [hl]; omega)).2 f g d e
  rw [← r8, ← r1, hl] at hcl
  have h2 := hcl (fun i p hi hp => by
    rcases r10 i hi with h3 | ⟨p', h3⟩
    · rw [h3.2.2.2] at hp
      omega
    · rw [h3.2.2.2.2.2] at hp
      have : p' = p := by omega
      subst this
      exact hf i p' h3.2.2.2.2.1) (fun p g1 g2 => hg p g1 (by omega))
  have hm1 : 1 ≤ m := by
    unfold lft at r6
    omega
  refine ⟨m, r, r3, r1, hm1, ?_, ?_⟩
  · rcases r10 (m - 1) (by omega) with h3 | ⟨p, h3⟩
    · exact h3.2.2.1
    · omega
  · have h5 : lfS f (jlO tb C).length m (jlQ tb C).1 (jlQ tb C).2.1 = f (m - 1) := by
      unfold lfS
      rcases r6 with h4 | h4
      · rw [show (jlO tb C).length - (jlQ tb C).1 = 1 by omega, show m - (jlQ tb C).2.1 = 0 by omega, sF, sF, sF, show (jlQ tb C).1 = m - 1 by omega]
        omega
      · rw [show (jlO tb C).length - (jlQ tb C).1 = 0 by omega, show m - (jlQ tb C).2.1 = 1 by omega, sF, sF, sF, show (jlQ tb C).2.1 = m - 1 by omega]
        omega
    rw [h5] at h2
    unfold lfS at h2
    rw [Nat.sub_self, Nat.sub_zero, sF] at h2
    omega
/-- the lengths of the leaves -/
theorem hlL_leaf {i : Nat} (hi : i < (jlO tb C).length) (h : 0 ≤ (jlO tb C).getD i 0) : yat (hlL tb C C.length) ((jlO tb C).getD i 0) = yat (hlD tb C) i := by
  have hm := (jlO_mem (C := C) (tb := tb) ((jlO tb C).getD i 0)).mp (by rw [getD_get hi]; exact List.getElem_mem _)
  obtain ⟨s, hs⟩ := Int.eq_ofNat_of_zero_le h
  rw [hs] at hm
  rw [hs, hlL, spF_at _ _ 0 _ i s (srt_nd jlO_srt) hi hs (by simp; omega), Nat.zero_add]
/-- the joined trees weigh what the words cost -/
theorem jwF_cs (hnn : ∀ x ∈ C, 0 ≤ x) (h1 : 1 ≤ abF C) : csF C (hlL 0 C C.length) C.length 0 0 = jwF C := by
  obtain ⟨m, r, r1, r2, r3, r4, r5⟩ := hl_pot (tb := 0) (.inl rfl) hnn h1 (fun i => yat (jlQ 0 C).2.2.1 i * yat (hlD 0 C) i) (fun i => yat (jlQ 0 C).2.2.1 i) (fun p => yat (hlD 0 C) p + 1) (fun _ => 0) (fun i p hd => by
    show yat (jlQ 0 C).2.2.1 i * yat (hlD 0 C) i = _
    rw [hd, Int.add_zero, Int.mul_comm]) (fun p _ _ => by
    show (yat (hlD 0 C) p + 1) * yat (jlQ 0 C).2.2.1 p + _ * 0 = yat (jlQ 0 C).2.2.1 p * yat (hlD 0 C) p + yat (jlQ 0 C).2.2.1 p
    rw [Int.mul_zero, Int.add_mul, Int.mul_comm (yat (hlD 0 C) p)]
    omega)
  rw [csF_sF, Int.zero_add, jwF, drop_sF _ r _ (by omega)]
  rw [r4, Int.mul_zero, Int.zero_add] at r5
  rw [← r5]
  have h2 := sort_sF C (fun x => yat C x * yat (hlL 0 C C.length) x) (fun s hs => by
    have h3 := yat_nn hnn s
    have : yat C s = 0 := by omega
    show yat C s * _ = 0
    rw [this, Int.zero_mul])
  rw [← h2, list_sF, ← jlO_0]
  refine sF_congr _ _ fun i _ hi => ?_
  rw [Nat.zero_add] at hi
  have hm := (jlO_mem (C := C) (tb := 0) ((jlO 0 C).getD i 0)).mp (by rw [getD_get hi]; exact List.getElem_mem _)
  show yat C ((jlO 0 C).getD i 0) * _ = yat (jlQ 0 C).2.2.1 i * yat (hlD 0 C) i
  rw [hlL_leaf hi (by omega)]
  obtain ⟨m', r', q1, q2, q3, q4, q5, q6, q7, q8, q9, q10⟩ := hl_run (tb := 0) (.inl rfl) hnn h1
  have hl := pw_len C (jlO 0 C)
  have hcl := (jOut_cl (n := (jlO 0 C).length) (t := 2) (by omega) r' 0 (jlO 0 C).length (pw C (jlO 0 C)) (List.replicate (jlO 0 C).length (-1)) (Nat.zero_le _) (Nat.le_refl _) (by omega) (by simp [hl]) (by rw [hl]; rw [show ((2 : Int) + 0).toNat - 1 = 1 from rfl] at q2; omega)).1 i (by omega)
  have q8' : jlQ 0 C = jOut (jlO 0 C).length 2 r' 0 (jlO 0 C).length (pw C (jlO 0 C)) (List.replicate (jlO 0 C).length (-1)) := q8
  rw [← q8'] at hcl
  rw [hcl.1, pw_yat C _ hi]
end
