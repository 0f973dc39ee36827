/-! THE LAW op by op: text and counts -/
section
variable {scr : List Int} {h : Hp} {T C S : List Int} {cs : List cdT} {wr : Nat} {th i : Int}
theorem cpA_ok {T : List Int} (hT : T.length ≤ 120) : (cpA T).length = 26 ∧ ∀ x ∈ cpA T, 0 ≤ x ∧ x ≤ 9999 := by
  refine ⟨by unfold cpA; rw [cpF_len]; simp, fun x hx => ?_⟩
  have := cpF_rng T T.length 0 (List.replicate 26 0) 0 (fun x hx => by rw [List.eq_of_mem_replicate hx]; omega) (Int.le_refl _) x hx
  omega
theorem RS_65 {h1 : Hp} {y : Nat} {as : List AV} {v : AV} {th' : Int} (m : Jm h1 T C S cs wr th) (e2 : ∀ P, Cy scr y as h1 P = P (.inl (some v), ut h1 65 (mK (T.length : Nat) (cs.length : Nat) (S.length : Nat) wr th'))) : RS scr h1 y as v T C S cs wr th' := RS_of e2 (Jm_65 m _) (FM_ut _ (FM_rf _) (by omega)) (by rw [ln_ut]; exact Nat.le_refl _) (Nat.le_refl _)
theorem RS_65T {h1 : Hp} {y : Nat} {as : List AV} {v : AV} {th' : Int} {T' A : List Int} (m : Jm h1 T C S cs wr th) (lA : A.length = 120) (pA : pre A T') (e2 : ∀ P, Cy scr y as h1 P = P (.inl (some v), ut (ut h1 65 (mK (T'.length : Nat) (cs.length : Nat) (S.length : Nat) wr th')) 67 (cI 0 A))) : RS scr h1 y as v T' C S cs wr th' := by
  obtain ⟨m0, m66, ⟨A0, m67, _⟩, _⟩ := id m
  refine RS_of e2 (Jm_T m ((gt_ne _ _ (by omega)).trans (gt_eq _ _ (gt_lt m0))) (gt_eq _ _ (by rw [ln_ut]; exact gt_lt m67)) lA pA (fun a h1 h2 h3 => (gt_ne _ _ (by omega)).trans (gt_ne _ _ (by omega)))) (FM_ut _ (FM_ut _ (FM_rf _) (by omega)) (by omega)) (by rw [ln_ut, ln_ut]; exact Nat.le_refl _) (Nat.le_refl _)
theorem RS_65T0 {h1 : Hp} {y : Nat} {as : List AV} {v : AV} {th' : Int} (m : Jm h1 T C S cs wr th) (e2 : ∀ P, Cy scr y as h1 P = P (.inl (some v), ut h1 65 (mK 0 (cs.length : Nat) (S.length : Nat) wr th'))) : RS scr h1 y as v [] C S cs wr th' := by
  obtain ⟨m0, m66, ⟨A0, m67, lA, pA⟩, _⟩ := id m
  exact RS_of e2 (Jm_T m (gt_eq _ _ (gt_lt m0)) ((gt_ne _ _ (by omega)).trans m67) lA ⟨Nat.zero_le _, rfl⟩ (fun a h1 h2 h3 => gt_ne _ _ (by omega))) (FM_ut _ (FM_rf _) (by omega)) (by rw [ln_ut]; exact Nat.le_refl _) (Nat.le_refl _)
theorem RS_65C {h1 : Hp} {y : Nat} {as : List AV} {v : AV} {th' : Int} {C' : List Int} (m : Jm h1 T C S cs wr th) (e2 : ∀ P, Cy scr y as h1 P = P (.inl (some v), ut (ut h1 65 (mK (T.length : Nat) (cs.length : Nat) (S.length : Nat) wr th')) 66 (cI 0 C'))) : RS scr h1 y as v T C' S cs wr th' := RS_of e2 (Jm_66 (Jm_65 m _) _) (FM_ut _ (FM_ut _ (FM_rf _) (by omega)) (by omega)) (by rw [ln_ut, ln_ut]; exact Nat.le_refl _) (Nat.le_refl _)
theorem op_0 {a1 : Int} (hj : J h T C S cs wr th) (hi : 0 ≤ i ∧ i < 1000000) (s1 : scr[(i + 1).toNat]? = some a1) (r1 : -2147483648 ≤ a1 ∧ a1 < 2147483648) : ST scr 2 i h := by
  obtain ⟨⟨x0, x1, x3, x6, ⟨es, hl, hc⟩, hsi, hbi, ⟨O, x47⟩⟩, jm, ⟨u0, o1⟩, _, st⟩ := id hj
  obtain ⟨⟨hT, hTr⟩, ⟨hC, hCr⟩, ⟨hS, hSr⟩, ⟨hn, hg⟩, hwr⟩ := id st
  have c1 : 0 ≤ a1 % 65536 ∧ a1 % 65536 < 65536 := by omega
  have e := fun P => c_Sh_type (scr := scr) (P := P) x0 x1 hT c1
  by_cases h1 : 97 ≤ a1 % 65536 ∧ a1 % 65536 ≤ 122
  · have hTa : ∀ x ∈ T ++ [a1 % 65536 - 97], 0 ≤ x ∧ x < 26 := fun x hx => by
      rcases List.mem_append.mp hx with hx | hx
      · exact hTr x hx
      · rw [List.mem_singleton.mp hx]
        omega
    by_cases h2 : T.length < 120
    · simp only [if_pos h1, if_pos h2] at e
      refine ST_ok hj (CS_of e (Jc_1 hj.1 _) (FC_ut _ (FC_rf _) (by omega)) (ln_ut ..) (Nat.le_succ _)) (fun e g => w_type_o x0 e g) (fun k1 m l => ?_) (fun g m e1 e2 o P => lw_0 s1 hi g m e1 e2 o (by omega) (fun _ => rfl)) (⟨⟨by simp; omega, hTa⟩, st.2⟩)
      obtain ⟨m0, m66, ⟨A, m67, lA, pA⟩, ⟨B, m71, lB, pB⟩, hm, hms, ⟨Wd, hw⟩⟩ := id m
      have e2 := fun P => c_Mo_type (scr := scr) (P := P) m0 m67 lA ⟨by omega, by omega⟩ c1
      have h2' : ((T.length : Nat) : Int) < 120 := by omega
      simp only [if_pos h1, if_pos h2'] at e2
      have pp := pre_put (v := a1 % 65536 - 97) pA (by omega)
      have el : ((T.length : Nat) : Int) + 1 = ((T.length + 1 : Nat) : Int) := rfl
      rw [el] at e2
      have e3 : (T ++ [a1 % 65536 - 97]).length = T.length + 1 := by simp
      refine RS_65T m (by rw [yput_len]; exact lA) pp ?_
      rw [e3]
      exact e2
    · simp only [if_pos h1, if_neg h2] at e
      refine ST_ex (rv := vI 0) hj (CS_x e hj.1) (fun e => w_type_9 x0 e) (fun k1 m l => ?_) (fun g m e1 e2 o P => lw_0 s1 hi g m e1 e2 o (by omega) (fun h9 => absurd h9 (by omega)))
      obtain ⟨m0, m66, ⟨A, m67, lA, pA⟩, ⟨B, m71, lB, pB⟩, hm, hms, ⟨Wd, hw⟩⟩ := id m
      have e2 := fun P => c_Mo_type (scr := scr) (P := P) m0 m67 lA ⟨by omega, by omega⟩ c1
      have h2' : ¬ ((T.length : Nat) : Int) < 120 := by omega
      simp only [if_pos h1, if_neg h2'] at e2
      exact RS_65 m e2
  · simp only [if_neg h1] at e
    refine ST_ex (rv := vI 0) hj (CS_x e hj.1) (fun e => w_type_8 x0 e) (fun k1 m l => ?_) (fun g m e1 e2 o P => lw_0 s1 hi g m e1 e2 o (by omega) (fun h9 => absurd h9 (by omega)))
    obtain ⟨m0, m66, ⟨A, m67, lA, pA⟩, ⟨B, m71, lB, pB⟩, hm, hms, ⟨Wd, hw⟩⟩ := id m
    have e2 := fun P => c_Mo_type (scr := scr) (P := P) m0 m67 lA ⟨by omega, by omega⟩ c1
    simp only [if_neg h1] at e2
    exact RS_65 m e2
theorem op_2 (hj : J h T C S cs wr th) (hi : 0 ≤ i ∧ i < 1000000) : ST scr 8 i h := by
  obtain ⟨⟨x0, x1, x3, x6, ⟨es, hl, hc⟩, hsi, hbi, ⟨O, x47⟩⟩, jm, ⟨u0, o1⟩, _, st⟩ := id hj
  obtain ⟨⟨hT, hTr⟩, ⟨hC, hCr⟩, ⟨hS, hSr⟩, ⟨hn, hg⟩, hwr⟩ := id st
  have e := fun P => c_Sh_wipe (scr := scr) (P := P) x0 x1
  refine ST_A (th' := 0) hj (CS_of e (Jc_1 hj.1 _) (FC_ut _ (FC_rf _) (by omega)) (ln_ut ..) (Nat.le_succ _)) (fun k1 m l => ?_) (fun g m e1 e2 P => lw_2 hi g m x0 e1 e2) (⟨⟨Nat.zero_le _, fun x hx => by cases hx⟩, st.2⟩)
  obtain ⟨m0, m66, ⟨A, m67, lA, pA⟩, ⟨B, m71, lB, pB⟩, hm, hms, ⟨Wd, hw⟩⟩ := id m
  exact RS_65T0 m (fun P => c_Mo_wipe m0)
theorem op_3 (hj : J h T C S cs wr th) (hi : 0 ≤ i ∧ i < 1000000) : ST scr 9 i h := by
  obtain ⟨⟨x0, x1, x3, x6, ⟨es, hl, hc⟩, hsi, hbi, ⟨O, x47⟩⟩, jm, ⟨u0, o1⟩, _, st⟩ := id hj
  obtain ⟨⟨hT, hTr⟩, ⟨hC, hCr⟩, ⟨hS, hSr⟩, ⟨hn, hg⟩, hwr⟩ := id st
  have e := fun P => c_Sh_length (scr := scr) (P := P) x0 x1
  refine ST_A (th' := 0) hj (CS_same e hj.1) (fun k1 m l => ?_) (fun g m e1 e2 P => lw_3 hi g m x0 e1 e2) (st)
  obtain ⟨m0, m66, ⟨A, m67, lA, pA⟩, ⟨B, m71, lB, pB⟩, hm, hms, ⟨Wd, hw⟩⟩ := id m
  exact RS_65 m (fun P => c_Mo_length m0)
theorem op_4 {a1 : Int} (hj : J h T C S cs wr th) (hi : 0 ≤ i ∧ i < 1000000) (s1 : scr[(i + 1).toNat]? = some a1) (r1 : -2147483648 ≤ a1 ∧ a1 < 2147483648) : ST scr 10 i h := by
  obtain ⟨⟨x0, x1, x3, x6, ⟨es, hl, hc⟩, hsi, hbi, ⟨O, x47⟩⟩, jm, ⟨u0, o1⟩, _, st⟩ := id hj
  obtain ⟨⟨hT, hTr⟩, ⟨hC, hCr⟩, ⟨hS, hSr⟩, ⟨hn, hg⟩, hwr⟩ := id st
  have e := fun P => c_Sh_typed (scr := scr) (P := P) x0 x1 hT hTr r1
  by_cases h1 : 0 ≤ a1 ∧ a1 < (T.length : Int)
  · simp only [if_pos h1] at e
    refine ST_ok hj (CS_same e hj.1) (fun e g => w_typed_o x0 e g) (fun k1 m l => ?_) (fun g m e1 e2 o P => lw_4 s1 hi g m e1 e2 o (by omega) (fun _ => rfl)) (st)
    obtain ⟨m0, m66, ⟨A, m67, lA, pA⟩, ⟨B, m71, lB, pB⟩, hm, hms, ⟨Wd, hw⟩⟩ := id m
    have e2 := fun P => c_Mo_typed (scr := scr) (P := P) m0 m67 lA pA hTr r1
    simp only [if_pos h1] at e2
    exact RS_65 m e2
  · simp only [if_neg h1] at e
    refine ST_ex (rv := vI 97) hj (CS_x e hj.1) (fun e => w_typed_10 x0 e) (fun k1 m l => ?_) (fun g m e1 e2 o P => lw_4 s1 hi g m e1 e2 o (by omega) (fun h9 => absurd h9 (by omega)))
    obtain ⟨m0, m66, ⟨A, m67, lA, pA⟩, ⟨B, m71, lB, pB⟩, hm, hms, ⟨Wd, hw⟩⟩ := id m
    have e2 := fun P => c_Mo_typed (scr := scr) (P := P) m0 m67 lA pA hTr r1
    simp only [if_neg h1] at e2
    exact RS_65 m e2
theorem op_5 {a1 a2 : Int} (hj : J h T C S cs wr th) (hi : 0 ≤ i ∧ i < 1000000) (s1 : scr[(i + 1).toNat]? = some a1) (s2 : scr[(i + 2).toNat]? = some a2) (r1 : -2147483648 ≤ a1 ∧ a1 < 2147483648) (r2 : -2147483648 ≤ a2 ∧ a2 < 2147483648) : ST scr 13 i h := by
  obtain ⟨⟨x0, x1, x3, x6, ⟨es, hl, hc⟩, hsi, hbi, ⟨O, x47⟩⟩, jm, ⟨u0, o1⟩, _, st⟩ := id hj
  obtain ⟨⟨hT, hTr⟩, ⟨hC, hCr⟩, ⟨hS, hSr⟩, ⟨hn, hg⟩, hwr⟩ := id st
  have c1 : 0 ≤ a1 % 65536 ∧ a1 % 65536 < 65536 := by omega
  have e := fun P => c_Sh_set (scr := scr) (P := P) x0 x3 c1 r2
  by_cases h1 : (97 ≤ a1 % 65536 ∧ a1 % 65536 ≤ 122) ∧ 0 ≤ a2 ∧ a2 ≤ 9999
  · simp only [if_pos h1] at e
    refine ST_ok hj (CS_of e (Jc_3 hj.1 _) (FC_ut _ (FC_rf _) (by omega)) (ln_ut ..) (Nat.le_succ _)) (fun e g => w_set_o x0 e g) (fun k1 m l => ?_) (fun g m e1 e2 o P => lw_5 s1 s2 hi g m e1 e2 o (by omega) (fun _ => rfl)) (⟨st.1, ⟨by rw [yput_len]; exact hC, yput_all (Q := fun x => 0 ≤ x ∧ x ≤ 9999) hCr (by omega)⟩, st.2.2⟩)
    obtain ⟨m0, m66, ⟨A, m67, lA, pA⟩, ⟨B, m71, lB, pB⟩, hm, hms, ⟨Wd, hw⟩⟩ := id m
    have e2 := fun P => c_Mo_set (scr := scr) (P := P) m0 m66 hC c1 r2
    simp only [if_pos h1] at e2
    exact RS_65C m e2
  · simp only [if_neg h1] at e
    refine ST_ex (rv := vI 0) hj (CS_x e hj.1) (fun e => w_set_8 x0 e) (fun k1 m l => ?_) (fun g m e1 e2 o P => lw_5 s1 s2 hi g m e1 e2 o (by omega) (fun h9 => absurd h9 (by omega)))
    obtain ⟨m0, m66, ⟨A, m67, lA, pA⟩, ⟨B, m71, lB, pB⟩, hm, hms, ⟨Wd, hw⟩⟩ := id m
    have e2 := fun P => c_Mo_set (scr := scr) (P := P) m0 m66 hC c1 r2
    simp only [if_neg h1] at e2
    exact RS_65 m e2
theorem op_6 {a1 : Int} (hj : J h T C S cs wr th) (hi : 0 ≤ i ∧ i < 1000000) (s1 : scr[(i + 1).toNat]? = some a1) (r1 : -2147483648 ≤ a1 ∧ a1 < 2147483648) : ST scr 16 i h := by
  obtain ⟨⟨x0, x1, x3, x6, ⟨es, hl, hc⟩, hsi, hbi, ⟨O, x47⟩⟩, jm, ⟨u0, o1⟩, _, st⟩ := id hj
  obtain ⟨⟨hT, hTr⟩, ⟨hC, hCr⟩, ⟨hS, hSr⟩, ⟨hn, hg⟩, hwr⟩ := id st
  have c1 : 0 ≤ a1 % 65536 ∧ a1 % 65536 < 65536 := by omega
  have e := fun P => c_Sh_count (scr := scr) (P := P) x0 x3 c1
  by_cases h1 : 97 ≤ a1 % 65536 ∧ a1 % 65536 ≤ 122
  · simp only [if_pos h1] at e
    refine ST_ok hj (CS_same e hj.1) (fun e g => w_count_o x0 e g) (fun k1 m l => ?_) (fun g m e1 e2 o P => lw_6 s1 hi g m e1 e2 o (by omega) (fun _ => rfl)) (st)
    obtain ⟨m0, m66, ⟨A, m67, lA, pA⟩, ⟨B, m71, lB, pB⟩, hm, hms, ⟨Wd, hw⟩⟩ := id m
    have e2 := fun P => c_Mo_count (scr := scr) (P := P) m0 m66 hC c1
    simp only [if_pos h1] at e2
    exact RS_65 m e2
  · simp only [if_neg h1] at e
    refine ST_ex (rv := vI 0) hj (CS_x e hj.1) (fun e => w_count_8 x0 e) (fun k1 m l => ?_) (fun g m e1 e2 o P => lw_6 s1 hi g m e1 e2 o (by omega) (fun h9 => absurd h9 (by omega)))
    obtain ⟨m0, m66, ⟨A, m67, lA, pA⟩, ⟨B, m71, lB, pB⟩, hm, hms, ⟨Wd, hw⟩⟩ := id m
    have e2 := fun P => c_Mo_count (scr := scr) (P := P) m0 m66 hC c1
    simp only [if_neg h1] at e2
    exact RS_65 m e2
theorem op_7 (hj : J h T C S cs wr th) (hi : 0 ≤ i ∧ i < 1000000) : ST scr 19 i h := by
  obtain ⟨⟨x0, x1, x3, x6, ⟨es, hl, hc⟩, hsi, hbi, ⟨O, x47⟩⟩, jm, ⟨u0, o1⟩, _, st⟩ := id hj
  obtain ⟨⟨hT, hTr⟩, ⟨hC, hCr⟩, ⟨hS, hSr⟩, ⟨hn, hg⟩, hwr⟩ := id st
  have e := fun P => c_Sh_take (scr := scr) (P := P) x0 x1 x3 hT hTr
  have q1 := cpA_ok hT
  rw [← abF_cntS q1.1 (fun x hx => (q1.2 x hx).1)] at e
  refine ST_A (th' := 0) hj (CS_of e (Jc_3 hj.1 _) (FC_ut _ (FC_rf _) (by omega)) (ln_ut ..) (Nat.le_succ _)) (fun k1 m l => ?_) (fun g m e1 e2 P => lw_7 hi g m x0 e1 e2) (⟨st.1, q1, st.2.2⟩)
  obtain ⟨m0, m66, ⟨A, m67, lA, pA⟩, ⟨B, m71, lB, pB⟩, hm, hms, ⟨Wd, hw⟩⟩ := id m
  obtain ⟨X, m72, lX⟩ := hms.1
  have e2 := fun P => c_Mo_take (scr := scr) (P := P) m0 m66 m67 m72 lX lA hC pA hTr
  refine RS_of e2 (Jm_66 (Jm_s (Jm_65 m 0) ((gt_ne _ _ (by omega)).trans (gt_eq _ _ (gt_lt m0))) (MS_ut (Jm_65 m 0).2.2.2.2.2.1 (.inl ⟨rfl, _, rfl, q1.1⟩)) ⟨Wd, (gt_ne _ _ (by omega)).trans ((gt_ne _ _ (by omega)).trans hw.1), hw.2⟩ (fun a h1 h2 => gt_ne _ _ (by omega))) _) (FM_ut _ (FM_ut _ (FM_ut _ (FM_rf _) (by omega)) (by omega)) (by omega)) (by rw [ln_ut, ln_ut, ln_ut]; exact Nat.le_refl _) (Nat.le_refl _)
theorem op_8 (hj : J h T C S cs wr th) (hi : 0 ≤ i ∧ i < 1000000) : ST scr 20 i h := by
  obtain ⟨⟨x0, x1, x3, x6, ⟨es, hl, hc⟩, hsi, hbi, ⟨O, x47⟩⟩, jm, ⟨u0, o1⟩, _, st⟩ := id hj
  obtain ⟨⟨hT, hTr⟩, ⟨hC, hCr⟩, ⟨hS, hSr⟩, ⟨hn, hg⟩, hwr⟩ := id st
  have e := fun P => c_Sh_clear (scr := scr) (P := P) x0 x3 hC
  refine ST_A (th' := 0) hj (CS_of e (Jc_3 hj.1 _) (FC_ut _ (FC_rf _) (by omega)) (ln_ut ..) (Nat.le_succ _)) (fun k1 m l => ?_) (fun g m e1 e2 P => lw_8 hi g m x0 e1 e2) (⟨st.1, ⟨List.length_replicate, fun x hx => by rw [List.eq_of_mem_replicate hx]; omega⟩, st.2.2⟩)
  obtain ⟨m0, m66, ⟨A, m67, lA, pA⟩, ⟨B, m71, lB, pB⟩, hm, hms, ⟨Wd, hw⟩⟩ := id m
  exact RS_65C m (fun P => c_Mo_clear m0 m66 hC)
theorem op_15 (hj : J h T C S cs wr th) (hi : 0 ≤ i ∧ i < 1000000) : ST scr 37 i h := by
  obtain ⟨⟨x0, x1, x3, x6, ⟨es, hl, hc⟩, hsi, hbi, ⟨O, x47⟩⟩, jm, ⟨u0, o1⟩, _, st⟩ := id hj
  obtain ⟨⟨hT, hTr⟩, ⟨hC, hCr⟩, ⟨hS, hSr⟩, ⟨hn, hg⟩, hwr⟩ := id st
  obtain ⟨mc, ed, x5, _⟩ := id hl
  have e := fun P => c_Sh_codes (scr := scr) (P := P) x0 x5
  rw [hc.1] at e
  refine ST_A (th' := 0) hj (CS_same e hj.1) (fun k1 m l => ?_) (fun g m e1 e2 P => lw_15 hi g m x0 e1 e2) (st)
  obtain ⟨m0, m66, ⟨A, m67, lA, pA⟩, ⟨B, m71, lB, pB⟩, hm, hms, ⟨Wd, hw⟩⟩ := id m
  exact RS_65 m (fun P => c_Mo_codes m0)
theorem op_37 (hj : J h T C S cs wr th) (hi : 0 ≤ i ∧ i < 1000000) : ST scr 91 i h := by
  obtain ⟨⟨x0, x1, x3, x6, ⟨es, hl, hc⟩, hsi, hbi, ⟨O, x47⟩⟩, jm, ⟨u0, o1⟩, _, st⟩ := id hj
  obtain ⟨⟨hT, hTr⟩, ⟨hC, hCr⟩, ⟨hS, hSr⟩, ⟨hn, hg⟩, hwr⟩ := id st
  have e := fun P => c_Sh_streamBits (scr := scr) (P := P) x0 x6
  refine ST_A (th' := 0) hj (CS_same e hj.1) (fun k1 m l => ?_) (fun g m e1 e2 P => lw_37 hi g m x0 e1 e2) (st)
  obtain ⟨m0, m66, ⟨A, m67, lA, pA⟩, ⟨B, m71, lB, pB⟩, hm, hms, ⟨Wd, hw⟩⟩ := id m
  exact RS_65 m (fun P => c_Mo_streamBits m0)
theorem op_38 (hj : J h T C S cs wr th) (hi : 0 ≤ i ∧ i < 1000000) : ST scr 92 i h := by
  obtain ⟨⟨x0, x1, x3, x6, ⟨es, hl, hc⟩, hsi, hbi, ⟨O, x47⟩⟩, jm, ⟨u0, o1⟩, _, st⟩ := id hj
  obtain ⟨⟨hT, hTr⟩, ⟨hC, hCr⟩, ⟨hS, hSr⟩, ⟨hn, hg⟩, hwr⟩ := id st
  have e := fun P => c_Sh_written (scr := scr) (P := P) x0
  refine ST_A (th' := 0) hj (CS_same e hj.1) (fun k1 m l => ?_) (fun g m e1 e2 P => lw_38 hi g m x0 e1 e2) (st)
  obtain ⟨m0, m66, ⟨A, m67, lA, pA⟩, ⟨B, m71, lB, pB⟩, hm, hms, ⟨Wd, hw⟩⟩ := id m
  exact RS_65 m (fun P => c_Mo_written m0)
end
