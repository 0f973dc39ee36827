/-! the pure part: texts come back -/
theorem wdB_at (w : Int) : ∀ (k i : Nat), i < k → yat (wdB w k) i = w / 2 ^ (k - 1 - i) % 2
  | 0, i, h => by omega
  | k + 1, 0, h => by
    show yat (w / 2 ^ k % 2 :: wdB w k) ((0 : Nat) : Int) = _
    rw [yat_cons0, show k + 1 - 1 - 0 = k by omega]
  | k + 1, i + 1, h => by
    show yat (w / 2 ^ k % 2 :: wdB w k) ((i + 1 : Nat) : Int) = _
    rw [yat_cons1, wdB_at w k i (by omega), show k + 1 - 1 - (i + 1) = k - 1 - i by omega]
theorem nv_wd {P Q : List Int} {w : Int} {k : Nat} (hS : bitR (P ++ (wdB w k ++ Q))) (h0 : 0 ≤ w) (h1 : w < 2 ^ k) : nv (P ++ (wdB w k ++ Q)) P.length k = w := by
  rw [nv_eq hS _ k w h0 h1]
  intro i hi
  rw [yat_apr (by omega), yat_app (by rw [wdB_len]; omega), show (P.length : Int) + i - P.length = i by omega, wdB_at w k i hi]
theorem bit_app {A B : List Int} : bitR (A ++ B) ↔ bitR A ∧ bitR B := by
  unfold bitR
  constructor
  · intro h
    exact ⟨fun x hx => h x (List.mem_append_left _ hx), fun x hx => h x (List.mem_append_right _ hx)⟩
  · rintro ⟨h1, h2⟩ x hx
    rcases List.mem_append.mp hx with h | h
    · exact h1 x h
    · exact h2 x h
section
variable {L W : List Int}
theorem wa_wd (ha : apart 2 L W) (hL : ∀ x ∈ L, x ≤ 25) {P Q : List Int} {s : Nat} (hs : s < L.length) (h0 : 0 ≤ yat L s) (hS : bitR (P ++ (wdB (yat W s) (yat L s).toNat ++ Q))) : waF L W (P ++ (wdB (yat W s) (yat L s).toNat ++ Q)) P.length L.length 0 = s := by
  have hw := ap_wok ha hL
  have hm : mtc L W (P ++ (wdB (yat W s) (yat L s).toNat ++ Q)) P.length s := by
    refine ⟨hs, h0, ?_, nv_wd hS (hw s hs h0).1 (hw s hs h0).2⟩
    rw [List.length_append, List.length_append, wdB_len]
    omega
  rcases waF_spec hS hw P.length L.length 0 (by omega) with h | ⟨i, h, h2⟩
  · exact absurd hm (h.2 s (Nat.zero_le _))
  · rw [h, mtc_one hS ha hL h2 hm]
theorem lt_back (ha : apart 2 L W) (hL : ∀ x ∈ L, x ≤ 25) (hl : L.length = 26) : ∀ (T P : List Int), (∀ x ∈ T, 0 ≤ x ∧ x < 26) → hwF L T = 1 → bitR P → gtF L W (P ++ ltF L W T) T.length P.length = T
  | [], P, _, _, _ => rfl
  | x :: t, P, hT, hh, hP => by
    have hx := hT x (.head _)
    obtain ⟨s, rfl⟩ := Int.eq_ofNat_of_zero_le hx.1
    have hh' : (if yat L s < 0 then 0 else hwF L t) = 1 := hh
    have h0 : 0 ≤ yat L s := by
      refine Int.not_lt.mp fun h => ?_
      rw [if_pos h] at hh'
      omega
    rw [if_neg (by omega)] at hh'
    have hS : bitR (P ++ (wdB (yat W s) (yat L s).toNat ++ ltF L W t)) := bit_app.mpr ⟨hP, bit_app.mpr ⟨wdB_bit _ _, ltF_bit _ _ _⟩⟩
    have e1 := wa_wd ha hL (s := s) (by omega) h0 hS
    have e2 := sa_wa hS (ap_wok ha hL) hL (p := P.length) ⟨by omega, by rw [List.length_append]; omega⟩
    rw [e1] at e2
    show gtF L W (P ++ (wdB (yat W s) (yat L s).toNat ++ ltF L W t)) (t.length + 1) P.length = _
    rw [gtF, e2, if_neg (by omega)]
    have ih := lt_back ha hL hl t (P ++ wdB (yat W s) (yat L s).toNat) (fun y hy => hT y (.tail _ hy)) hh' (bit_app.mpr ⟨hP, wdB_bit _ _⟩)
    rw [List.append_assoc, show ((P ++ wdB (yat W s) (yat L s).toNat).length : Int) = P.length + yat L s by rw [List.length_append, wdB_len]; omega] at ih
    rw [ih]
end
theorem cm_true {q : cdT} (ha : q.1 ≠ 116 → apart 2 q.2.1 q.2.2) (hL : ∀ x ∈ q.2.1, x ≤ 25) (hl : q.2.1.length = 26) {T : List Int} (hT : ∀ x ∈ T, 0 ≤ x ∧ x < 26) : cmF q T = true := by
  unfold cmF
  rw [decide_eq_true_eq]
  by_cases h1 : q.1 = 116
  · exact .inl h1
  · by_cases h2 : hwF q.2.1 T = 1
    · refine .inr (.inr ?_)
      have := lt_back (ha h1) hL hl T [] hT h2 (fun x hx => by cases hx)
      exact this.symm
    · exact .inr (.inl h2)
theorem gr_back : ∀ (T P G Wd Wd' : List Int), gOk G → Wd.length = 27 → Wd'.length = 27 → (∀ x ∈ T, 0 ≤ x ∧ x < 26) → bitR P → ggF (P ++ glF T G Wd) T.length P.length G Wd' = T
  | [], P, G, Wd, Wd', _, _, _, _, _ => rfl
  | x :: t, P, G, Wd, Wd', hg, hW, hW', hT, hP => by
    have hx := hT x (.head _)
    obtain ⟨s, rfl⟩ := Int.eq_ofNat_of_zero_le hx.1
    have hl := hlL_len 0 G 27
    have ha := g_apart hg hW'
    have hL := gL_25 hg
    have h26 := (gL_has hg (s := 26) (by omega)).mpr hg.2.2.2
    have h26' : 0 ≤ yat (hlL 0 G 27) 26 := h26
    have w26 : yat (lbW 2 (hlL 0 G 27) Wd) 26 = yat (lbW 2 (hlL 0 G 27) Wd') 26 := g_same hg hW hW' (s := 26) (by omega) h26
    have ih := fun P hP => gr_back t P (grF G s) (lbW 2 (hlL 0 G 27) Wd) (lbW 2 (hlL 0 G 27) Wd') (gOk_gr hg (by omega)) (by rw [lbW_len]; exact hW) (by rw [lbW_len]; exact hW') (fun y hy => hT y (.tail _ hy)) hP
    have hgb := glF_bit t (grF G s) (lbW 2 (hlL 0 G 27) Wd)
    unfold glF
    rw [List.length_cons]
    by_cases h : 0 < yat G s
    · have h0 := (gL_has hg (s := s) (by omega)).mpr h
      rw [if_pos h, g_same hg hW hW' (by omega) h0]
      have hS : bitR (P ++ (wdB (yat (lbW 2 (hlL 0 G 27) Wd') s) (yat (hlL 0 G 27) s).toNat ++ glF t (grF G s) (lbW 2 (hlL 0 G 27) Wd))) := bit_app.mpr ⟨hP, bit_app.mpr ⟨wdB_bit _ _, hgb⟩⟩
      have e1 := wa_wd ha hL (s := s) (by omega) h0 hS
      have e2 := sa_wa hS (ap_wok ha hL) hL (p := P.length) ⟨by omega, by rw [List.length_append]; omega⟩
      rw [e1] at e2
      rw [ggF, e2, if_neg (by omega), if_neg (by omega)]
      have ih2 := ih (P ++ wdB (yat (lbW 2 (hlL 0 G 27) Wd') s) (yat (hlL 0 G 27) s).toNat) (bit_app.mpr ⟨hP, wdB_bit _ _⟩)
      rw [List.append_assoc, show ((P ++ wdB (yat (lbW 2 (hlL 0 G 27) Wd') s) (yat (hlL 0 G 27) s).toNat).length : Int) = P.length + yat (hlL 0 G 27) s by rw [List.length_append, wdB_len]; omega] at ih2
      rw [ih2]
    · rw [if_neg h, w26, List.append_assoc]
      have hS : bitR (P ++ (wdB (yat (lbW 2 (hlL 0 G 27) Wd') ((26 : Nat) : Int)) (yat (hlL 0 G 27) ((26 : Nat) : Int)).toNat ++ (wdB s 5 ++ glF t (grF G s) (lbW 2 (hlL 0 G 27) Wd)))) := bit_app.mpr ⟨hP, bit_app.mpr ⟨wdB_bit _ _, bit_app.mpr ⟨wdB_bit _ _, hgb⟩⟩⟩
      have e1 := wa_wd ha hL (s := 26) (by omega) h26 hS
      have e2 := sa_wa hS (ap_wok ha hL) hL (p := P.length) ⟨by omega, by rw [List.length_append]; omega⟩
      rw [e1] at e2
      have e3 : nfF (P ++ (wdB (yat (lbW 2 (hlL 0 G 27) Wd') 26) (yat (hlL 0 G 27) 26).toNat ++ (wdB s 5 ++ glF t (grF G s) (lbW 2 (hlL 0 G 27) Wd)))) (P.length + yat (hlL 0 G 27) 26) 5 0 0 = s := by
        have hS2 : bitR ((P ++ wdB (yat (lbW 2 (hlL 0 G 27) Wd') 26) (yat (hlL 0 G 27) 26).toNat) ++ (wdB s 5 ++ glF t (grF G s) (lbW 2 (hlL 0 G 27) Wd))) := by
          rw [List.append_assoc]
          exact hS
        have := nv_wd hS2 (by omega) (show (s : Int) < 2 ^ 5 by omega)
        rw [List.append_assoc, show ((P ++ wdB (yat (lbW 2 (hlL 0 G 27) Wd') 26) (yat (hlL 0 G 27) 26).toNat).length : Int) = P.length + yat (hlL 0 G 27) 26 by rw [List.length_append, wdB_len]; omega] at this
        exact this
      have e2' : saF (hlL 0 G 27) (lbW 2 (hlL 0 G 27) Wd') (P ++ (wdB (yat (lbW 2 (hlL 0 G 27) Wd') 26) (yat (hlL 0 G 27) 26).toNat ++ (wdB s 5 ++ glF t (grF G s) (lbW 2 (hlL 0 G 27) Wd)))) P.length (-1) = 26 := e2
      have hle : ¬ (((P ++ (wdB (yat (lbW 2 (hlL 0 G 27) Wd') 26) (yat (hlL 0 G 27) 26).toNat ++ (wdB s 5 ++ glF t (grF G s) (lbW 2 (hlL 0 G 27) Wd)))).length : Int) < P.length + yat (hlL 0 G 27) 26 + 5 ∨ (26 : Int) ≤ s) := by
        rw [List.length_append, List.length_append, List.length_append, wdB_len, wdB_len]
        omega
      rw [ggF, e2', if_neg (by omega), if_pos rfl, e3, if_neg hle]
      have ih2 := ih (P ++ wdB (yat (lbW 2 (hlL 0 G 27) Wd') 26) (yat (hlL 0 G 27) 26).toNat ++ wdB s 5) (bit_app.mpr ⟨bit_app.mpr ⟨hP, wdB_bit _ _⟩, wdB_bit _ _⟩)
      rw [List.append_assoc, List.append_assoc, show ((P ++ wdB (yat (lbW 2 (hlL 0 G 27) Wd') 26) (yat (hlL 0 G 27) 26).toNat ++ wdB s 5).length : Int) = P.length + yat (hlL 0 G 27) 26 + 5 by rw [List.length_append, List.length_append, wdB_len, wdB_len]; omega] at ih2
      rw [ih2]
theorem grow_back {T Wd Wd' : List Int} (hW : Wd.length = 27) (hW' : Wd'.length = 27) (hT : ∀ x ∈ T, 0 ≤ x ∧ x < 26) : T = ggF (glF T startG Wd) T.length 0 startG Wd' := (gr_back T [] startG Wd Wd' gOk_start hW hW' hT (fun x hx => by cases hx)).symm
