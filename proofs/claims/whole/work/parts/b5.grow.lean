/-! the pure part: growing codes -/
theorem abF_one : ∀ {C : List Int} {s : Nat}, 0 < yat C s → 1 ≤ abF C
  | [], s, h => by
    rw [yat_n] at h
    simp at h
  | x :: t, 0, h => by
    rw [yat_n] at h
    have := (abF_rng t).1
    show 1 ≤ (if 0 < x then (1 : Int) else 0) + abF t
    rw [if_pos (by simpa using h)]
    omega
  | x :: t, s + 1, h => by
    have h1 : 0 < yat t s := by
      rw [yat_n] at h ⊢
      simpa using h
    have := abF_one h1
    show 1 ≤ (if 0 < x then (1 : Int) else 0) + abF t
    split <;> omega
section
variable {G : List Int}
theorem gL_rng (hg : gOk G) : ∀ x ∈ hlL 0 G 27, -1 ≤ x ∧ x ≤ 8 := by
  have := hlL_few hg.2.1 (abF_one hg.2.2.2) hg.2.2.1
  rwa [hg.1] at this
theorem gL_has (hg : gOk G) {s : Nat} (hs : s < 27) : 0 ≤ yat (hlL 0 G 27) s ↔ 0 < yat G s := by
  have := hlL_rng (tb := 0) (.inl rfl) hg.2.1 (abF_one hg.2.2.2) (b := 8) (by omega) (fun i hi => (hl_few hg.2.1 (abF_one hg.2.2.2) hg.2.2.1 hi).2) s (by rw [hg.1]; exact hs)
  rw [hg.1] at this
  exact this.2.2
theorem gL_sh (hg : gOk G) : shF 2 (hlL 0 G 27) ≤ 2 ^ 25 := by
  have := (hl_share (tb := 0) (.inl rfl) hg.2.1 (abF_one hg.2.2.2) (fun i _ hi => by have := hl_few hg.2.1 (abF_one hg.2.2.2) hg.2.2.1 hi; omega)).1
  rw [hg.1] at this
  exact this
theorem gL_25 (hg : gOk G) : ∀ x ∈ hlL 0 G 27, x ≤ 25 := fun x hx => by have := gL_rng hg x hx; omega
theorem g_apart (hg : gOk G) {Wd : List Int} (hW : Wd.length = 27) : apart 2 (hlL 0 G 27) (lbW 2 (hlL 0 G 27) Wd) := lbW_apart (by omega) (gL_25 hg) (by rw [hlL_len]; exact hW) (gL_sh hg)
theorem g_jo (hg : gOk G) : joF 2 G = hlL 0 G 27 := by
  have := joF_hlL (tb := 0) (.inl rfl) hg.2.1 (abF_one hg.2.2.2)
  rw [hg.1] at this
  exact this
theorem g_wo (hg : gOk G) {Wd : List Int} (hW : Wd.length = 27) : woW 2 (joF 2 G) Wd = lbW 2 (hlL 0 G 27) Wd := by
  rw [g_jo hg]
  exact woW_lbW (by omega) (gL_25 hg) (by rw [hlL_len]; exact hW)
theorem g_wrd (hg : gOk G) {Wd : List Int} (hw : wrdG Wd) : wrdG (lbW 2 (hlL 0 G 27) Wd) := by
  refine ⟨fun x hx => ?_, by rw [lbW_len]; exact hw.2⟩
  obtain ⟨s, hs, rfl⟩ := List.getElem_of_mem hx
  rw [lbW_len] at hs
  have e : (lbW 2 (hlL 0 G 27) Wd)[s]'(by rw [lbW_len]; exact hs) = yat (lbW 2 (hlL 0 G 27) Wd) s := by
    rw [yat_n, getD_get]
  rw [e]
  have hs2 : s < (hlL 0 G 27).length := by rw [hlL_len, ← hw.2]; exact hs
  by_cases h : 0 ≤ yat (hlL 0 G 27) s
  · have h1 := ap_lt (by omega) (g_apart hg hw.2) (gL_25 hg) hs2 h
    have h2 := gL_rng hg _ (yat_mem' hs2)
    have h3 := pow_le25 (k := (yat (hlL 0 G 27) s).toNat) (by omega)
    omega
  · rw [(lbW_ok (gL_25 hg) (by rw [hlL_len]; exact hw.2) hs2).2 h]
    exact yat_wrd hw.1 s
theorem gHyp_ok : gHyp := fun G hg => ⟨fun x hx => by have := gL_rng hg x hx; omega, fun Wd hw => g_wrd hg hw⟩
theorem gHypM_ok : gHypM := fun G hg => ⟨fun x hx => by rw [g_jo hg] at hx; have := gL_rng hg x hx; omega, fun Wd hw => by rw [g_wo hg hw.2]; exact g_wrd hg hw⟩
/-- words don't rest on what was there -/
theorem g_same (hg : gOk G) {Wd Wd' : List Int} (hW : Wd.length = 27) (hW' : Wd'.length = 27) {s : Nat} (hs : s < 27) (h : 0 ≤ yat (hlL 0 G 27) s) : yat (lbW 2 (hlL 0 G 27) Wd) s = yat (lbW 2 (hlL 0 G 27) Wd') s := by
  have hl := hlL_len 0 G 27
  exact ws_unique (by omega) ((lbW_ok (gL_25 hg) (by omega) (by omega)).1 h) ((lbW_ok (gL_25 hg) (by omega) (by omega)).1 h)
end
theorem gl_gm : ∀ (T G Wd Wd' : List Int), gOk G → Wd.length = 27 → Wd'.length = 27 → (∀ x ∈ T, 0 ≤ x ∧ x < 26) → glF T G Wd = gmF T G Wd'
  | [], _, _, _, _, _, _, _ => rfl
  | x :: t, G, Wd, Wd', hg, hW, hW', hT => by
    have hx := hT x (.head _)
    obtain ⟨s, rfl⟩ := Int.eq_ofNat_of_zero_le hx.1
    have h26 := (gL_has hg (s := 26) (by omega)).mpr hg.2.2.2
    have e26 := g_same hg hW hW' (s := 26) (by omega) h26
    have ih := gl_gm t (grF G s) (lbW 2 (hlL 0 G 27) Wd) (woW 2 (joF 2 G) Wd') (gOk_gr hg (by omega)) (by rw [lbW_len]; exact hW) (by rw [woW_len]; exact hW') (fun y hy => hT y (.tail _ hy))
    unfold glF gmF
    rw [ih, g_wo hg hW', g_jo hg]
    congr 1
    by_cases h : 0 < yat G s
    · rw [if_pos h, if_pos h, g_same hg hW hW' (s := s) (by omega) ((gL_has hg (by omega)).mpr h)]
    · rw [if_neg h, if_neg h]
      have e : yat (lbW 2 (hlL 0 G 27) Wd) 26 = yat (lbW 2 (hlL 0 G 27) Wd') 26 := e26
      rw [e]
theorem waF_congr {L W W' S : List Int} {a : Int} : ∀ (j s : Nat), s + j ≤ L.length → (∀ i : Nat, i < L.length → 0 ≤ yat L i → yat W i = yat W' i) → waF L W S a j s = waF L W' S a j s
  | 0, _, _, _ => rfl
  | j + 1, s, hs, h => by
    have ih := waF_congr (S := S) (a := a) j (s + 1) (by omega) h
    unfold waF
    by_cases h0 : 0 ≤ yat L s
    · have e : wmF L W S a s (yat L s).toNat 0 = wmF L W' S a s (yat L s).toNat 0 := by
        rw [Bool.eq_iff_iff, wmF_iff, wmF_iff]
        have e2 : ∀ i : Nat, dgF 2 L W s i = dgF 2 L W' s i := fun i => by
          unfold dgF
          rw [h s (by omega) h0]
        simp only [e2]
      rw [e, ih]
    · rw [if_neg (fun h => h0 h.1.1), if_neg (fun h => h0 h.1.1)]
      exact ih
theorem nu_nf {S : List Int} {p : Int} : nuF S p 5 0 0 = if p + 5 ≤ S.length then nfF S p 5 0 0 else 99 := by
  have h1 : nuF S p 5 0 0 = if p + 4 < (S.length : Int) then 2 * nuF S p 4 0 0 + yat S (p + 4) else 99 := rfl
  by_cases h : p + 5 ≤ S.length
  · rw [if_pos h]
    unfold nuF nuF nuF nuF nuF nuF
    rw [if_pos (by omega), if_pos (by omega), if_pos (by omega), if_pos (by omega), if_pos (by omega)]
    rfl
  · rw [if_neg h, h1, if_neg (by omega)]
theorem gg_gu {S : List Int} (hS : bitR S) : ∀ (j : Nat) (p : Int) (G Wd Wd' : List Int), gOk G → Wd.length = 27 → Wd'.length = 27 → 0 ≤ p → p ≤ S.length → ggF S j p G Wd = guF S j p G Wd'
  | 0, _, _, _, _, _, _, _, _, _ => rfl
  | j + 1, p, G, Wd, Wd', hg, hW, hW', hp0, hp => by
    have hl := hlL_len 0 G 27
    have ha := g_apart hg hW
    have e1 := sa_wa hS (ap_wok ha (gL_25 hg)) (gL_25 hg) ⟨hp0, hp⟩
    have e2 := waF_congr (L := hlL 0 G 27) (W := lbW 2 (hlL 0 G 27) Wd) (W' := lbW 2 (hlL 0 G 27) Wd') (S := S) (a := p) 27 0 (by omega) (fun i hi h => g_same hg hW hW' (by omega) h)
    rw [hl, e2] at e1
    have hr := waF_rng (hlL 0 G 27) (lbW 2 (hlL 0 G 27) Wd') S p 27 0
    unfold ggF guF
    rw [g_wo hg hW', g_jo hg, e1]
    obtain ⟨sg, hsg⟩ : ∃ sg, sg = waF (hlL 0 G 27) (lbW 2 (hlL 0 G 27) Wd') S p 27 0 := ⟨_, rfl⟩
    rw [← hsg] at hr ⊢
    by_cases h1 : sg < 0
    · rw [if_pos h1, if_pos h1]
    · rw [if_neg h1, if_neg h1]
      have hr2 := hr.2.2 (by omega)
      by_cases h2 : sg = 26
      · rw [if_pos h2, if_pos h2]
        rw [h2] at hr2
        rw [nu_nf]
        by_cases h3 : p + yat (hlL 0 G 27) 26 + 5 ≤ S.length
        · rw [if_pos h3]
          have hn := nv_rng hS (p + yat (hlL 0 G 27) 26) 5
          by_cases h4 : 26 ≤ nfF S (p + yat (hlL 0 G 27) 26) 5 0 0
          · rw [if_pos (.inr h4), if_pos h4]
          · rw [if_neg (by omega), if_neg h4]
            have ih := gg_gu hS j (p + yat (hlL 0 G 27) 26 + 5) (grF G (nfF S (p + yat (hlL 0 G 27) 26) 5 0 0)) (lbW 2 (hlL 0 G 27) Wd) (lbW 2 (hlL 0 G 27) Wd') (gOk_gr hg ⟨hn.1, by omega⟩) (by rw [lbW_len]; exact hW) (by rw [lbW_len]; exact hW') (by omega) h3
            rw [ih]
        · rw [if_neg h3, if_pos (.inl (by omega)), if_pos (by omega)]
      · rw [if_neg h2, if_neg h2]
        rw [gg_gu hS j (p + yat (hlL 0 G 27) sg) (grF G sg) (lbW 2 (hlL 0 G 27) Wd) (lbW 2 (hlL 0 G 27) Wd') (gOk_gr hg (by omega)) (by rw [lbW_len]; exact hW) (by rw [lbW_len]; exact hW') (by omega) (by omega)]
