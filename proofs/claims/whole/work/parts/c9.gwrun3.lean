/-! the pure part: the whole run of a row, its levels -/
section
variable {n : Nat} {O' : List Int}
theorem pw_pos {W Ln : List Int} (hW : ∀ x ∈ W, 0 < x) (hL : ∀ x ∈ Ln, 0 ≤ x ∧ x < W.length) : ∀ x ∈ pw W Ln, 0 < x := fun x hx => by
  unfold pw at hx
  obtain ⟨o, ho, rfl⟩ := List.mem_map.mp hx
  have h := hL o ho
  obtain ⟨k, rfl⟩ := Int.eq_ofNat_of_zero_le h.1
  exact hW _ (yat_mem (by omega))
theorem gwF_pre : ∀ (r : Nat) (W Pa Ln : List Int), ∃ E, (gwF r W Pa Ln).1 = W ++ E
  | 0, W, _, _ => ⟨[], (List.append_nil W).symm⟩
  | r + 1, W, Pa, Ln => by
    obtain ⟨E, hE⟩ := gwF_pre r (W ++ [jiW W Ln (gq W Ln)]) (jiP W Pa Ln (gq W Ln)) (jiL W Ln (gq W Ln))
    exact ⟨jiW W Ln (gq W Ln) :: E, by rw [gwF, hE, List.append_assoc]; rfl⟩
theorem gw_run : ∀ (r : Nat) (W Pa Ln : List Int) (next : Nat) (Q : jmT), oR n O' W Pa Ln next Q → Ln.length = r + 1 → next + r ≤ 52 → (∀ x ∈ W, 0 < x) → ((W.length - 1 : Nat) : Int) ∈ Ln → oR n O' (gwF r W Pa Ln).1 (gwF r W Pa Ln).2.1 (gwF r W Pa Ln).2.2 (next + r) (igF r next Q) ∧ (gwF r W Pa Ln).2.2.length = 1 ∧ (gwF r W Pa Ln).1.length = W.length + r ∧ (((gwF r W Pa Ln).1.length - 1 : Nat) : Int) ∈ (gwF r W Pa Ln).2.2 ∧ (∀ i : Nat, i < W.length → (i : Int) ∉ Ln → yat (gwF r W Pa Ln).2.1 i = yat Pa i) ∧ ∀ Df : List Int, (∀ i p : Nat, i < (gwF r W Pa Ln).1.length → yat (gwF r W Pa Ln).2.1 i = p → yat Df i = yat Df p + 1) → (∀ i : Nat, i < (gwF r W Pa Ln).1.length → yat (gwF r W Pa Ln).2.1 i = -1 → yat Df i = 0) → GL r (pw W Ln) (Ln.map (fun x => yat Df x)) ∧ (Ln.map (fun x => yat W x * yat Df x)).sum = ((gwF r W Pa Ln).1.drop W.length).sum
  | 0, W, Pa, Ln, next, Q, h, hl, hn, hW, hm => by
    refine ⟨h, hl, rfl, hm, fun _ _ _ => rfl, fun Df h1 h2 => ?_⟩
    obtain ⟨x, rfl⟩ := List.length_eq_one_iff.mp hl
    obtain ⟨k, k1, k2, k3, -⟩ := or_at h (i := 0) (by simp)
    have hx : x = (k : Int) := by
      have : yat [x] ((0 : Nat) : Int) = x := yat_cons0
      rw [← this, k1]
    have hd : yat Df x = 0 := by
      have h3 := h.2.2.2.2.1 k k2
      rcases h3 with h3 | h3
      · rw [hx, h2 k k2 h3.2.1]
      · exact absurd k3 h3.1
    refine ⟨⟨by rw [pw_len]; exact hl, ?_⟩, ?_⟩
    · rw [List.map_cons, List.map_nil, hd]
    · show _ = (W.drop W.length).sum
      rw [List.map_cons, List.map_nil, hd, Int.mul_zero, List.drop_length]
      rfl
  | r + 1, W, Pa, Ln, next, Q, h, hl, hn, hW, hm => by
    obtain ⟨s1, s2, s3, s4, s5, s6, s7⟩ := or_step h (by omega) (by omega)
    have hg := gq_lt (W := W) (Ln := Ln) (by omega)
    obtain ⟨q, hq⟩ : ∃ q, q = gq W Ln := ⟨_, rfl⟩
    obtain ⟨w, hw⟩ : ∃ w, w = jiW W Ln (gq W Ln) := ⟨_, rfl⟩
    have hLr := h.2.1.2
    have hrow := pw_pos hW hLr
    obtain ⟨a, a1, a2, a3, a4, a5⟩ := or_at h (i := gq W Ln) (by omega)
    obtain ⟨b, b1, b2, b3, b4, b5⟩ := or_at h (i := gq W Ln + 1) (by omega)
    have hwa : 0 < yat W a := hW _ (yat_mem a2)
    have hwb : 0 < yat W b := hW _ (yat_mem b2)
    have hwab : w = yat W a + yat W b := by
      rw [hw]
      unfold jiW wl
      rw [a1, b1]
    have hW' : ∀ x ∈ W ++ [w], 0 < x := fun x hx => by
      rcases List.mem_append.mp hx with h1 | h1
      · exact hW x h1
      · rw [List.mem_singleton.mp h1]
        omega
    have hjl := jiL_len (W := W) (Ln := Ln) (q := gq W Ln) (by omega)
    have hwl : (W ++ [w]).length = W.length + 1 := by simp
    obtain ⟨t, ht⟩ : ∃ t, t = bhF (W ++ [w]) (jiR Ln (gq W Ln)) w (gq W Ln) := ⟨_, rfl⟩
    have htq : t ≤ gq W Ln := by rw [ht]; exact bhF_le _ _ _ _
    have hbs := bhF_spec (W ++ [w]) (jiR Ln (gq W Ln)) w (gq W Ln)
    rw [← ht] at hbs
    have hcut := row_cut (L := Ln) (q := gq W Ln) (t := t) (by omega) htq
    have eL : jiL W Ln (gq W Ln) = Ln.take t ++ (W.length : Int) :: ((Ln.take (gq W Ln)).drop t ++ Ln.drop (gq W Ln + 2)) := by
      rw [← hcut.2]
      unfold jiL
      rw [← hw, ← ht]
      rfl
    have hmem' : (((W ++ [w]).length - 1 : Nat) : Int) ∈ jiL W Ln (gq W Ln) := by
      rw [eL, hwl]
      simp
    rw [← hw] at s1
    have ih := gw_run r (W ++ [w]) (jiP W Pa Ln (gq W Ln)) (jiL W Ln (gq W Ln)) (next + 1) _ s1 (by rw [hjl]; omega) (by omega) hW' hmem'
    have eF : gwF (r + 1) W Pa Ln = gwF r (W ++ [w]) (jiP W Pa Ln (gq W Ln)) (jiL W Ln (gq W Ln)) := by
      rw [hw]
      rfl
    have eI : igF (r + 1) next Q = igF r (next + 1) (isF next Q (iqF Q.1 Q.2.2 Q.2.2.length 0)) := rfl
    rw [eF, eI]
    obtain ⟨i1, i2, i3, i4, i5, i6⟩ := ih
    rw [hwl] at i3 i5
    rw [show next + 1 + r = next + (r + 1) by omega] at i1
    refine ⟨i1, i2, by omega, i4, fun i hi hin => by rw [i5 i (by omega) (s3 i hi hin), s2 i hi hin], fun Df h1 h2 => ?_⟩
    obtain ⟨hG, hS⟩ := i6 Df h1 h2
    have hda : yat Df a = yat Df (W.length : Nat) + 1 := by
      refine h1 a W.length (by omega) ?_
      rw [i5 a (by omega) (by rw [← a1]; exact s6), ← a1]
      exact s4
    have hdb : yat Df b = yat Df (W.length : Nat) + 1 := by
      refine h1 b W.length (by omega) ?_
      rw [i5 b (by omega) (by rw [← b1]; exact s7), ← b1]
      exact s5
    rw [a1, b1] at hcut
    have hsub : ∀ x, x ∈ Ln.take t ∨ x ∈ (Ln.take (gq W Ln)).drop t ∨ x ∈ Ln.drop (gq W Ln + 2) → 0 ≤ x ∧ x < W.length := fun x hx => by
      rcases hx with h3 | h3 | h3
      · exact hLr x (List.mem_of_mem_take h3)
      · exact hLr x (List.mem_of_mem_take (List.mem_of_mem_drop h3))
      · exact hLr x (List.mem_of_mem_drop h3)
    have ePw : pw (W ++ [w]) (jiL W Ln (gq W Ln)) = pw W (Ln.take t) ++ (yat W a + yat W b) :: (pw W ((Ln.take (gq W Ln)).drop t) ++ pw W (Ln.drop (gq W Ln + 2))) := by
      rw [eL, ← hwab]
      have e1 := pw_app (W := W) (w := w) (fun x hx => hsub x (.inl hx))
      have e2 := pw_app (W := W) (w := w) (fun x hx => hsub x (.inr (.inl hx)))
      have e3 := pw_app (W := W) (w := w) (fun x hx => hsub x (.inr (.inr hx)))
      rw [← e1, ← e2, ← e3]
      unfold pw
      rw [List.map_append, List.map_cons, List.map_append, yat_ap2]
    have eRow : pw W Ln = pw W (Ln.take t) ++ (pw W ((Ln.take (gq W Ln)).drop t) ++ yat W a :: yat W b :: pw W (Ln.drop (gq W Ln + 2))) := by
      have := congrArg (pw W) hcut.1
      rw [this]
      unfold pw
      rw [List.map_append, List.map_append, List.map_cons, List.map_cons]
    have hsum : (Ln.map (fun x => yat W x * yat Df x)).sum = ((gwF r (W ++ [w]) (jiP W Pa Ln (gq W Ln)) (jiL W Ln (gq W Ln))).1.drop W.length).sum := by
      obtain ⟨E, hE⟩ := gwF_pre r (W ++ [w]) (jiP W Pa Ln (gq W Ln)) (jiL W Ln (gq W Ln))
      have d1 : ((W ++ [w]) ++ E).drop W.length = w :: E := by
        rw [List.append_assoc, List.drop_left]
        rfl
      have d2 : ((W ++ [w]) ++ E).drop (W ++ [w]).length = E := List.drop_left
      have eM : ∀ X : List Int, (∀ x ∈ X, 0 ≤ x ∧ x < W.length) → X.map (fun x => yat (W ++ [w]) x * yat Df x) = X.map (fun x => yat W x * yat Df x) := fun X hX => List.map_congr_left fun x hx => by
        have h3 := hX x hx
        obtain ⟨k, rfl⟩ := Int.eq_ofNat_of_zero_le h3.1
        rw [yat_ap1 (by omega)]
      rw [hE] at hS ⊢
      rw [d1, List.sum_cons]
      rw [d2, eL, List.map_append, List.map_cons, List.map_append, eM _ (fun x hx => hsub x (.inl hx)), eM _ (fun x hx => hsub x (.inr (.inl hx))), eM _ (fun x hx => hsub x (.inr (.inr hx))), yat_ap2, List.sum_append, List.sum_cons, List.sum_append] at hS
      have h3 := congrArg (fun X => (List.map (fun x => yat W x * yat Df x) X).sum) hcut.1
      refine h3.trans ?_
      show (List.map (fun x => yat W x * yat Df x) (Ln.take t ++ ((Ln.take (gq W Ln)).drop t ++ (a : Int) :: (b : Int) :: Ln.drop (gq W Ln + 2)))).sum = _
      rw [List.map_append, List.map_append, List.map_cons, List.map_cons, List.sum_append, List.sum_append, List.sum_cons, List.sum_cons, hda, hdb, Int.mul_add, Int.mul_add, Int.mul_one, Int.mul_one]
      rw [hwab, Int.add_mul] at hS
      rw [← hS, hwab]
      omega
    have hrl : ∀ i : Nat, i < Ln.length → (pw W Ln).getD i 0 = yat W (yat Ln i) := fun i hi => pw_at hi
    have hjr : ∀ i : Nat, i < gq W Ln → yat (W ++ [w]) (yat (jiR Ln (gq W Ln)) i) = yat W (yat Ln i) := fun i hi => by
      have e3 : yat (jiR Ln (gq W Ln)) i = yat Ln i := by
        have := irF_at (L := Ln) (q := gq W Ln) (i := i) (by omega)
        rw [if_pos hi] at this
        exact this
      obtain ⟨x, x1, x2, -⟩ := or_at h (i := i) (by omega)
      rw [e3, x1, yat_ap1 x2]
    have hfs := ftJ_spec W Ln (Ln.length - 2) 0 (by omega)
    rw [← hg.1] at hfs
    refine ⟨?_, hsum⟩
    refine ⟨pw W (Ln.take t), pw W ((Ln.take (gq W Ln)).drop t), yat W a, yat W b, pw W (Ln.drop (gq W Ln + 2)), (Ln.take t).map (fun x => yat Df x), ((Ln.take (gq W Ln)).drop t).map (fun x => yat Df x), yat Df (W.length : Nat), (Ln.drop (gq W Ln + 2)).map (fun x => yat Df x), eRow, ?_, by rw [pw_len, List.length_map], by rw [pw_len, List.length_map], by rw [pw_len, List.length_map], ⟨?_, ?_, ?_, ?_⟩, ?_⟩
    · have := congrArg (List.map (fun x => yat Df x)) hcut.1
      rw [this, List.map_append, List.map_append, List.map_cons, List.map_cons, hda, hdb]
    · intro z hz
      unfold pw at hz
      obtain ⟨o, ho, rfl⟩ := List.mem_map.mp hz
      obtain ⟨i, hi, rfl⟩ := List.getElem_of_mem ho
      rw [List.length_drop, List.length_take] at hi
      rw [List.getElem_drop, List.getElem_take]
      have := hbs.1 (t + i) (by omega) (by omega)
      rw [hjr _ (by omega), yat_n, getD_get (by omega)] at this
      rw [← hwab]
      exact this
    · by_cases ht0 : t = 0
      · rw [ht0, List.take_zero]
        exact Int.le_refl _
      · have h3 : pw W (Ln.take t) ≠ [] := fun e => by
          have := congrArg List.length e
          rw [pw_len, List.length_take, List.length_nil] at this
          omega
        rw [lsD_get _ h3, pw_len, List.length_take, show min t Ln.length = t by omega, pw_at (by rw [List.length_take]; omega)]
        have h4 : yat (Ln.take t) ((t - 1 : Nat) : Int) = yat Ln ((t - 1 : Nat) : Int) := by
          rw [yat_n, yat_n, getD_get (by rw [List.length_take]; omega), getD_get (by omega), List.getElem_take]
        rw [h4]
        rcases hbs.2 with h5 | h5
        · exact absurd h5 ht0
        · rw [hjr _ (by omega)] at h5
          omega
    · have e4 : pw W (Ln.take t) ++ pw W ((Ln.take (gq W Ln)).drop t) ++ [yat W a, yat W b] = (pw W Ln).take (gq W Ln + 2) := by
        rw [eRow, ← List.append_assoc]
        have e5 : (pw W (Ln.take t) ++ pw W ((Ln.take (gq W Ln)).drop t)).length = gq W Ln := by
          rw [List.length_append, pw_len, pw_len, List.length_drop, List.length_take, List.length_take]
          omega
        have e8 : (pw W (Ln.take t) ++ pw W ((Ln.take (gq W Ln)).drop t)).take (gq W Ln + 2) = pw W (Ln.take t) ++ pw W ((Ln.take (gq W Ln)).drop t) := List.take_of_length_le (by rw [e5]; omega)
        rw [List.take_append, e8, e5, show gq W Ln + 2 - gq W Ln = 2 by omega]
        rfl
      rw [e4]
      refine dsc_of _ fun i hi => ?_
      rw [List.length_take, pw_len] at hi
      have e6 : ∀ k : Nat, k < gq W Ln + 2 → ((pw W Ln).take (gq W Ln + 2)).getD k 0 = yat W (yat Ln k) := fun k hk => by
        rw [getD_get (by rw [List.length_take, pw_len]; omega), List.getElem_take, ← hrl k (by omega), getD_get (by rw [pw_len]; omega)]
      rw [e6 _ (by omega), e6 _ (by omega)]
      exact hfs.1 i (Nat.zero_le _) (by omega)
    · by_cases h3 : gq W Ln + 2 < Ln.length
      · rw [drop_yat (xs := Ln) h3]
        show yat W a - 1 < yat W (yat Ln ((gq W Ln + 2 : Nat) : Int))
        rcases hfs.2 with h5 | h5
        · omega
        · rw [show gq W Ln + 1 - 1 = gq W Ln by omega, show gq W Ln + 1 + 1 = gq W Ln + 2 by omega, a1] at h5
          omega
      · rw [drop_end (by omega)]
        trivial
    · rw [ePw] at hG
      have e7 : (jiL W Ln (gq W Ln)).map (fun x => yat Df x) = (Ln.take t).map (fun x => yat Df x) ++ yat Df (W.length : Nat) :: (((Ln.take (gq W Ln)).drop t).map (fun x => yat Df x) ++ (Ln.drop (gq W Ln + 2)).map (fun x => yat Df x)) := by
        rw [eL, List.map_append, List.map_cons, List.map_append]
      rw [e7] at hG
      exact hG
end
