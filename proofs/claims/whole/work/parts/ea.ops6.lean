/-! THE LAW op by op: moves, runs, lengths told, sound -/
section
variable {scr : List Int} {h : Hp} {T C S : List Int} {cs : List cdT} {wr : Nat} {th i : Int}
theorem RS_ty {h1 h2 : Hp} {y : Nat} {as : List AV} {v : AV} {T' : List Int} (m : Jm h1 T C S cs wr th) (e2 : ∀ P, Cy scr y as h1 P = P (.inl (some v), h2)) (k : tyM h1 h2 (cs.length : Nat) (S.length : Nat) wr T') : RS scr h1 y as v T' C S cs wr 0 := by
  obtain ⟨A', k1, k2, k3, k4, k5, k6, k7⟩ := k
  exact RS_new (N := 4200) (k := 1) e2 (Jm_T m k1 k2 k3 k4 (fun a h1 h2 h3 => k5.2.2 a h1 (by omega))) (FM_frB k5 (fun a h9 => by omega)) k6 (by decide) k7 (by rw [k5.2.1]; exact Nat.le_refl _)
theorem RS_ap {h1 : Hp} {y : Nat} {as : List AV} {v : AV} {th' : Int} {c : AC} (m : Jm h1 T C S cs wr th) (hc : yz c ≤ 4200) (e2 : ∀ P, Cy scr y as h1 P = P (.inl (some v), ap (ut h1 65 (mK (T.length : Nat) (cs.length : Nat) (S.length : Nat) wr th')) c)) : RS scr h1 y as v T C S cs wr th' := by
  have l0 := gt_lt m.1
  exact RS_new (N := 4200) (k := 1) e2 (Jm_FC (Jm_65 m th') (FC_ap _ (FC_rf _))) (FM_ap _ (FM_ut _ (FM_rf _) (by omega))) (by rw [ln_ap, ln_ut]; exact Nat.le_refl _) (by decide) (nw_ap (nw_ut (nw_rf _ _) (.inl l0)) hc) (Nat.le_refl _)
theorem RS_apu {h1 : Hp} {y : Nat} {as : List AV} {v : AV} {th' : Int} {c : AC} (m : Jm h1 T C S cs wr th) (hc : yz c ≤ 4200) (e2 : ∀ P, Cy scr y as h1 P = P (.inl (some v), ut (ap h1 c) 65 (mK (T.length : Nat) (cs.length : Nat) (S.length : Nat) wr th'))) : RS scr h1 y as v T C S cs wr th' := by
  have l0 := gt_lt m.1
  exact RS_new (N := 4200) (k := 1) e2 (Jm_65 (Jm_FC m (FC_ap c (FC_rf _))) th') (FM_ut _ (FM_ap _ (FM_rf _)) (by omega)) (by rw [ln_ut, ln_ap]; exact Nat.le_refl _) (by decide) (nw_ut (nw_ap (nw_rf _ _) hc) (.inl l0)) (Nat.le_refl _)
theorem RS_apT {h1 : Hp} {y : Nat} {as : List AV} {v : AV} {th' : Int} {c : AC} {T' A : List Int} (m : Jm h1 T C S cs wr th) (hc : yz c ≤ 4200) (lA : A.length = 120) (pA : pre A T') (e2 : ∀ P, Cy scr y as h1 P = P (.inl (some v), ut (ut (ap h1 c) 65 (mK (T'.length : Nat) (cs.length : Nat) (S.length : Nat) wr th')) 67 (cI 0 A))) : RS scr h1 y as v T' C S cs wr th' := by
  obtain ⟨m0, m66, ⟨A0, m67, _⟩, _⟩ := id m
  have l0 := gt_lt m0
  have l7 := gt_lt m67
  exact RS_new (N := 4200) (k := 1) e2 (Jm_T m ((gt_ne _ _ (by omega)).trans (gt_eq _ _ (by rw [ln_ap]; omega))) (gt_eq _ _ (by rw [ln_ut, ln_ap]; omega)) lA pA (fun a h1 h2 h3 => (gt_ne _ _ (by omega)).trans ((gt_ne _ _ (by omega)).trans (gt_al _ _ h1)))) (FM_ut _ (FM_ut _ (FM_ap _ (FM_rf _)) (by omega)) (by omega)) (by rw [ln_ut, ln_ut, ln_ap]; exact Nat.le_refl _) (by decide) (nw_ut (nw_ut (nw_ap (nw_rf _ _) hc) (.inl l0)) (.inl l7)) (Nat.le_refl _)
theorem ci_O : frO (ciL 26) := ciL_O
theorem op_44 (hj : J h T C S cs wr th) (hi : 0 ≤ i ∧ i < 1000000) : ST scr 108 i h := by
  obtain ⟨⟨x0, x1, x3, x6, ⟨es, hl, hc⟩, hsi, hbi, ⟨O, x47⟩⟩, jm, ⟨u0, o1⟩, _, st⟩ := id hj
  obtain ⟨⟨hT, hTr⟩, ⟨hC, hCr⟩, ⟨hS, hSr⟩, ⟨hn, hg⟩, hwr⟩ := id st
  obtain ⟨F, x49⟩ := hsi.2.2.1
  obtain ⟨sp, x59⟩ := hsi.2.2.2.1
  have e := fun P => c_Sh_moves (scr := scr) (P := P) x0 x1 x59 x49 hT hTr
  refine ST_A (th' := 0) hj (CS_of e (Jc_1 (Jc_49 (Jc_59 hj.1 _) _) _) (FC_ut _ (FC_ut _ (FC_ut _ (FC_rf _) (by omega)) (by omega)) (by omega)) (by rw [ln_ut, ln_ut, ln_ut]) (Nat.le_succ _)) (fun k1 m l => ?_) (fun g m e1 e2 P => lw_44 hi g m x0 e1 e2) (⟨⟨by rw [tmF_len]; exact hT, tmF_rng _ _ ciL_O hTr⟩, st.2⟩)
  obtain ⟨m0, m66, ⟨A, m67, lA, pA⟩, ⟨B, m71, lB, pB⟩, hm, hms, ⟨Wd, hw⟩⟩ := id m
  obtain ⟨h2, e2, k2⟩ := c_Mo_moves (scr := scr) m0 m67 lA pA hTr (tm_rng hTr)
  exact RS_ty m e2 k2
theorem op_45 (hj : J h T C S cs wr th) (hi : 0 ≤ i ∧ i < 1000000) : ST scr 109 i h := by
  obtain ⟨⟨x0, x1, x3, x6, ⟨es, hl, hc⟩, hsi, hbi, ⟨O, x47⟩⟩, jm, ⟨u0, o1⟩, _, st⟩ := id hj
  obtain ⟨⟨hT, hTr⟩, ⟨hC, hCr⟩, ⟨hS, hSr⟩, ⟨hn, hg⟩, hwr⟩ := id st
  obtain ⟨F, x49⟩ := hsi.2.2.1
  obtain ⟨sp, x59⟩ := hsi.2.2.2.1
  have e := fun P => c_Sh_unmoves (scr := scr) (P := P) x0 x1 x59 x49 hT hTr
  refine ST_A (th' := 0) hj (CS_of e (Jc_1 (Jc_49 (Jc_59 hj.1 _) _) _) (FC_ut _ (FC_ut _ (FC_ut _ (FC_rf _) (by omega)) (by omega)) (by omega)) (by rw [ln_ut, ln_ut, ln_ut]) (Nat.le_succ _)) (fun k1 m l => ?_) (fun g m e1 e2 P => lw_45 hi g m x0 e1 e2) (⟨⟨by rw [umF_len]; exact hT, umF_rng _ _ ciL_O hTr⟩, st.2⟩)
  obtain ⟨m0, m66, ⟨A, m67, lA, pA⟩, ⟨B, m71, lB, pB⟩, hm, hms, ⟨Wd, hw⟩⟩ := id m
  obtain ⟨h2, e2, k2⟩ := c_Mo_unmoves (scr := scr) m0 m67 lA pA hTr (um_rng hTr)
  exact RS_ty m e2 k2
theorem ru_rng {h1 : Hp} (m : Jm h1 T C S cs wr th) (hTr : ∀ x ∈ T, 0 ≤ x ∧ x < 26) (l : 192 ≤ ln h1) : ∀ x ∈ ruA T, 0 ≤ x ∧ x < 26 := by
  obtain ⟨m0, m66, ⟨A, m67, lA, pA⟩, _⟩ := id m
  exact (c_Mo_runs (scr := []) m0 m67 lA pA hTr l).1
theorem op_46 (hj : J h T C S cs wr th) (hi : 0 ≤ i ∧ i < 1000000) : ST scr 110 i h := by
  obtain ⟨⟨x0, x1, x3, x6, ⟨es, hl, hc⟩, hsi, hbi, ⟨O, x47⟩⟩, jm, ⟨u0, o1⟩, _, st⟩ := id hj
  obtain ⟨⟨hT, hTr⟩, ⟨hC, hCr⟩, ⟨hS, hSr⟩, ⟨hn, hg⟩, hwr⟩ := id st
  obtain ⟨sp, x59⟩ := hsi.2.2.2.1
  have e := fun P => c_Sh_runs (scr := scr) (P := P) x0 x1 x59 hT hTr
  rw [tr_ru] at e
  by_cases h1 : (ruA T).length ≤ 120
  · simp only [if_pos h1] at e
    have hru : ∀ x ∈ ruA T, 0 ≤ x ∧ x < 26 := ru_rng jm hTr (by have := gt_lt o1; omega)
    refine ST_ok hj (CS_of e (Jc_1 (Jc_59 hj.1 _) _) (FC_ut _ (FC_ut _ (FC_rf _) (by omega)) (by omega)) (by rw [ln_ut, ln_ut]) (Nat.le_succ _)) (fun e g => w_runs_o x0 e g) (fun k1 m l => ?_) (fun g m e1 e2 o P => lw_46 hi g m e1 e2 o (by omega) (fun _ => rfl)) (⟨⟨h1, hru⟩, st.2⟩)
    obtain ⟨m0, m66, ⟨A, m67, lA, pA⟩, ⟨B, m71, lB, pB⟩, hm, hms, ⟨Wd, hw⟩⟩ := id m
    obtain ⟨h2, e2, k2⟩ := (c_Mo_runs (scr := scr) m0 m67 lA pA hTr (by omega)).2.1 h1
    exact RS_ty m e2 k2
  · simp only [if_neg h1] at e
    refine ST_ex (rv := vI 0) hj (CS_of e (Jc_xc (Jc_59 hj.1 _)) (FC_xc (FC_ut _ (FC_rf _) (by omega))) (ln_ut ..) (Nat.le_refl _)) (fun e => w_runs_9 x0 e) (fun k1 m l => ?_) (fun g m e1 e2 o P => lw_46 hi g m e1 e2 o (by omega) (fun h9 => absurd h9 (by omega)))
    obtain ⟨m0, m66, ⟨A, m67, lA, pA⟩, ⟨B, m71, lB, pB⟩, hm, hms, ⟨Wd, hw⟩⟩ := id m
    obtain ⟨X, hX, e2⟩ := (c_Mo_runs (scr := scr) m0 m67 lA pA hTr (by omega)).2.2 (by omega)
    exact RS_ap (c := cI 0 X) m hX e2
theorem op_47 (hj : J h T C S cs wr th) (hi : 0 ≤ i ∧ i < 1000000) : ST scr 113 i h := by
  obtain ⟨⟨x0, x1, x3, x6, ⟨es, hl, hc⟩, hsi, hbi, ⟨O, x47⟩⟩, jm, ⟨u0, o1⟩, _, st⟩ := id hj
  obtain ⟨⟨hT, hTr⟩, ⟨hC, hCr⟩, ⟨hS, hSr⟩, ⟨hn, hg⟩, hwr⟩ := id st
  obtain ⟨sp, x59⟩ := hsi.2.2.2.1
  have e := fun P => c_Sh_unruns (scr := scr) (P := P) x0 x1 x59 hT hTr
  by_cases h1 : T.length % 2 = 0
  · by_cases h2 : (urA T).length ≤ 120
    · simp only [if_pos h1, if_pos h2] at e
      refine ST_ok hj (CS_of e (Jc_1 (Jc_59 hj.1 _) _) (FC_ut _ (FC_ut _ (FC_rf _) (by omega)) (by omega)) (by rw [ln_ut, ln_ut]) (Nat.le_succ _)) (fun e g => w_unruns_o x0 e g) (fun k1 m l => ?_) (fun g m e1 e2 o P => lw_47 hi g m e1 e2 o (by omega) (fun _ => rfl)) (⟨⟨h2, urA_rng hTr⟩, st.2⟩)
      obtain ⟨m0, m66, ⟨A, m67, lA, pA⟩, ⟨B, m71, lB, pB⟩, hm, hms, ⟨Wd, hw⟩⟩ := id m
      obtain ⟨h2', e2, k2⟩ := (c_Mo_unruns (scr := scr) m0 m67 lA pA hTr (by omega) h1).1 h2
      exact RS_ty m e2 k2
    · simp only [if_pos h1, if_neg h2] at e
      refine ST_ex (rv := vI 0) hj (CS_x e hj.1) (fun e => w_unruns_9 x0 e) (fun k1 m l => ?_) (fun g m e1 e2 o P => lw_47 hi g m e1 e2 o (by omega) (fun h9 => absurd h9 (by omega)))
      obtain ⟨m0, m66, ⟨A, m67, lA, pA⟩, ⟨B, m71, lB, pB⟩, hm, hms, ⟨Wd, hw⟩⟩ := id m
      obtain ⟨X, hX, e2⟩ := (c_Mo_unruns (scr := scr) m0 m67 lA pA hTr (by omega) h1).2 (by omega)
      exact RS_ap (c := cI 0 X) m hX e2
  · simp only [if_neg h1] at e
    refine ST_ex (rv := vI 0) hj (CS_x e hj.1) (fun e => w_unruns_12 x0 e) (fun k1 m l => ?_) (fun g m e1 e2 o P => lw_47 hi g m e1 e2 o (by omega) (fun h9 => absurd h9 (by omega)))
    obtain ⟨m0, m66, ⟨A, m67, lA, pA⟩, ⟨B, m71, lB, pB⟩, hm, hms, ⟨Wd, hw⟩⟩ := id m
    exact RS_65 m (fun P => c_Mo_unrunsE m0 hT (by omega))
theorem Jc_ap (hj : Jc h T C S cs wr) (hl : 65 ≤ ln h) (c : AC) : Jc (ap h c) T C S cs wr := by
  obtain ⟨x0, x1, x3, x6, _, hs, hb, _⟩ := id hj
  have k : ∀ a, a < 65 → gt (ap h c) a = gt h a := fun a ha => gt_al _ _ (by omega)
  exact Jc_up hj ((k _ (by omega)).trans x0) ((k _ (by omega)).trans x1) ((k _ (by omega)).trans x3) ((k _ (by omega)).trans x6) (k _ (by omega)) (fun a h1 h2 => gt_al _ _ h2) (SI_eq hs (fun a _ h2 => k a h2)) (BI_eq hb ⟨k _ (by omega), k _ (by omega)⟩) (k _ (by omega))
theorem Jc_51 (hj : Jc h T C S cs wr) {L : List Int} (hL : L.length = 26) : Jc (ut h 51 (rW 26 L)) T C S cs wr := by
  obtain ⟨x0, x1, x3, x6, _, hs, hb, _⟩ := id hj
  obtain ⟨q1, ⟨k0, ⟨O, k1⟩, ⟨A, k3, kA⟩, ⟨R, k5⟩, ⟨K, k7⟩⟩, ⟨Le, q3, q4⟩, ⟨Pc, q5⟩⟩ := id hs.1
  exact Jc_q hj ⟨FI_eq q1 (fun a _ _ => gt_ne _ _ (by omega)), ⟨(gt_ne _ _ (by omega)).trans k0, ⟨O, (gt_ne _ _ (by omega)).trans k1⟩, ⟨A, (gt_ne _ _ (by omega)).trans k3, kA⟩, ⟨R, (gt_ne _ _ (by omega)).trans k5⟩, ⟨K, (gt_ne _ _ (by omega)).trans k7⟩⟩, ⟨L, gt_eq _ _ (gt_lt q3), hL⟩, ⟨Pc, (gt_ne _ _ (by omega)).trans q5⟩⟩ (fr_ut _ (fr_refl _ _) (by omega))
theorem CS_bl {y : Nat} {as : List AV} {e : Nat} (e1 : ∀ P, Cy scr y as h P = P (.inr e, xc (blH h T))) (hj : Jc h T C S cs wr) (hl : 65 ≤ ln h) : CS scr h y as (.inr e) T C S cs wr := by
  have j1 := Jc_51 hj (bl_len T)
  have l1 : ln (ut h 51 (rW 26 (blA T))) = ln h := ln_ut ..
  have l2 : ln (blH h T) = ln h + 5 := (hC2_ln ..).trans (by rw [l1])
  refine ⟨_, e1, (Jc_ap (Jc_ap (Jc_ap (Jc_ap (Jc_ap j1 (by omega) _) (by rw [ln_ap]; omega) _) (by rw [ln_ap, ln_ap]; omega) _) (by rw [ln_ap, ln_ap, ln_ap]; omega) _) (by rw [ln_ap, ln_ap, ln_ap, ln_ap]; omega) _ : Jc (blH h T) T C S cs wr), FC_xc (FC_ap _ (FC_ap _ (FC_ap _ (FC_ap _ (FC_ap _ (FC_ut _ (FC_rf _) (by omega))))))), ⟨by rw [ln_xc]; omega, by rw [ln_xc]; omega⟩, ?_, Nat.le_refl _⟩
  have n1 : nw 26 (ut h 51 (rW 26 (blA T))) (blH h T) := hC2_nw
  exact nw_mono (nw_lnl n1 l1) (by decide)
theorem op_13 (hj : J h T C S cs wr th) (hi : 0 ≤ i ∧ i < 1000000) : ST scr 33 i h := by
  obtain ⟨⟨x0, x1, x3, x6, ⟨es, hl, hc⟩, hsi, hbi, ⟨O, x47⟩⟩, jm, ⟨u0, o1⟩, _, st⟩ := id hj
  obtain ⟨⟨hT, hTr⟩, ⟨hC, hCr⟩, ⟨hS, hSr⟩, ⟨hn, hg⟩, hwr⟩ := id st
  have hn' : es.length ≤ 12 := by rw [hc.1]; exact hn
  have hO := csO_of ⟨hn, hg⟩
  have hln := gt_lt o1
  obtain ⟨Le, x51, _⟩ := hsi.1.2.2.1
  by_cases t1 : T.length ≤ 26
  · have bb := bl_bm t1
    have bc := bl_cnt hTr t1
    by_cases h1 : (blA T).count (-1) = 26
    · have e := fun P => c_Sh_byLengths1 (scr := scr) (P := P) x0 x1 x51 t1 hTr (by omega) h1
      refine ST_ex (rv := vI 0) hj (CS_bl e hj.1 (by omega)) (fun e => w_byLengths_11 x0 e) (fun k1 m l => ?_) (fun g m e1 e2 o P => lw_13 hi g m e1 e2 o (by omega) (fun h9 => absurd h9 (by omega)))
      obtain ⟨m0, m66, ⟨A, m67, lA, pA⟩, ⟨B, m71, lB, pB⟩, hm, hms, ⟨Wd, hw⟩⟩ := id m
      have a0 : abF (bmL T) = 0 := by omega
      have e2 := fun P => c_Mo_byLengthsE (scr := scr) (P := P) m0 m67 lA pA hTr t1 (by omega) (.inl a0)
      simp only [if_pos a0] at e2
      exact RS_ap m (by show (bmL T).length ≤ 4200; rw [bmL_len]; decide) e2
    · have a0 : ¬ abF (bmL T) = 0 := by omega
      by_cases h2 : shF 2 (blA T) ≤ 33554432
      · have h2' : shF 2 (bmL T) ≤ 33554432 := by rw [← bb]; exact h2
        by_cases h3 : es.length < 12
        · have hcl : cs.length < 12 := by rw [← hc.1]; exact h3
          obtain ⟨g1, g2⟩ := bl_gd hTr t1 h2
          obtain ⟨h', e, mk⟩ := c_Sh_byLengths (scr := scr) x0 x1 x51 t1 hTr (by omega) (by omega) h2 hl hsi.1 h3
          obtain ⟨j1, j2, j3, j4, j5⟩ := Jc_mk hj.1 hl hc mk g1.1
          rw [hc.1] at e
          refine ST_ok hj (⟨h', e, j1, j2, j3, j4, j5⟩) (fun e g => w_byLengths_o x0 e g) (fun k1 m l => ?_) (fun g m e1 e2 o P => lw_13 hi g m e1 e2 o (by omega) (fun _ => rfl)) (st_app st hcl g1)
          obtain ⟨m0, m66, ⟨A, m67, lA, pA⟩, ⟨B, m71, lB, pB⟩, hm, hms, ⟨Wd, hw⟩⟩ := id m
          obtain ⟨h2', e2, mk2⟩ := c_Mo_byLengths (scr := scr) m0 m67 lA pA hTr t1 hm hms (by omega) a0 h2' hcl
          rw [← bb, g2] at mk2
          exact RS_mk m e2 mk2
        · have e := fun P => c_Sh_byLengths3 (scr := scr) (P := P) x0 x1 x51 t1 hTr (by omega) (by omega) h2 hl h3 (by omega)
          refine ST_ex (rv := vI 0) hj (CS_bl e hj.1 (by omega)) (fun e => w_byLengths_9 x0 e) (fun k1 m l => ?_) (fun g m e1 e2 o P => lw_13 hi g m e1 e2 o (by omega) (fun h9 => absurd h9 (by omega)))
          obtain ⟨m0, m66, ⟨A, m67, lA, pA⟩, ⟨B, m71, lB, pB⟩, hm, hms, ⟨Wd, hw⟩⟩ := id m
          have e2 := fun P => c_Mo_byLengthsE (scr := scr) (P := P) m0 m67 lA pA hTr t1 (by omega) (.inr (.inr (by have := hc.1; omega)))
          simp only [if_neg a0, if_pos h2'] at e2
          exact RS_ap m (by show (bmL T).length ≤ 4200; rw [bmL_len]; decide) e2
      · have h2' : ¬ shF 2 (bmL T) ≤ 33554432 := by rw [← bb]; exact h2
        have e := fun P => c_Sh_byLengths2 (scr := scr) (P := P) x0 x1 x51 t1 hTr (by omega) (by omega) (by omega)
        refine ST_ex (rv := vI 0) hj (CS_bl e hj.1 (by omega)) (fun e => w_byLengths_12 x0 e) (fun k1 m l => ?_) (fun g m e1 e2 o P => lw_13 hi g m e1 e2 o (by omega) (fun h9 => absurd h9 (by omega)))
        obtain ⟨m0, m66, ⟨A, m67, lA, pA⟩, ⟨B, m71, lB, pB⟩, hm, hms, ⟨Wd, hw⟩⟩ := id m
        have e2 := fun P => c_Mo_byLengthsE (scr := scr) (P := P) m0 m67 lA pA hTr t1 (by omega) (.inr (.inl (by omega)))
        simp only [if_neg a0, if_neg h2'] at e2
        exact RS_ap m (by show (bmL T).length ≤ 4200; rw [bmL_len]; decide) e2
  · have e := fun P => c_Sh_byLengths0 (scr := scr) (P := P) x0 x1 (by omega) hT
    refine ST_ex (rv := vI 0) hj (CS_x e hj.1) (fun e => w_byLengths_8 x0 e) (fun k1 m l => ?_) (fun g m e1 e2 o P => lw_13 hi g m e1 e2 o (by omega) (fun h9 => absurd h9 (by omega)))
    obtain ⟨m0, m66, ⟨A, m67, lA, pA⟩, ⟨B, m71, lB, pB⟩, hm, hms, ⟨Wd, hw⟩⟩ := id m
    exact RS_65 m (fun P => c_Mo_byLengths0 m0 (by omega))
theorem op_50 (hj : J h T C S cs wr th) (hi : 0 ≤ i ∧ i < 1000000) : ST scr 124 i h := by
  obtain ⟨⟨x0, x1, x3, x6, ⟨es, hl, hc⟩, hsi, hbi, ⟨O, x47⟩⟩, jm, ⟨u0, o1⟩, _, st⟩ := id hj
  obtain ⟨⟨hT, hTr⟩, ⟨hC, hCr⟩, ⟨hS, hSr⟩, ⟨hn, hg⟩, hwr⟩ := id st
  have hn' : es.length ≤ 12 := by rw [hc.1]; exact hn
  have hO := csO_of ⟨hn, hg⟩
  have e := fun P => c_Sh_checksum (scr := scr) (P := P) x0 x1 x3 x6 hT hTr hC (rngC hCr) hSr (by omega) hl hc hn'
  rw [hc.1] at e
  refine ST_A (th' := 0) hj (CS_same e hj.1) (fun k1 m l => ?_) (fun g m e1 e2 P => lw_50 hi g m x0 e1 e2) (st)
  obtain ⟨m0, m66, ⟨A, m67, lA, pA⟩, ⟨B, m71, lB, pB⟩, hm, hms, ⟨Wd, hw⟩⟩ := id m
  exact RS_65 m (fun P => c_Mo_checksum m0 m66 hC (rngC hCr) m67 lA pA (fun x hx => by have := hTr x hx; omega) m71 lB pB (fun x hx => by have := hSr x hx; omega) hm hO)
theorem sum6 : ∀ (l : List Nat), l.length ≤ 6 → (∀ i x, l[i]? = some x → x ≤ if i = 1 then 4200 else 120) → l.sum ≤ 4800
  | [], _, _ => by simp
  | [a], _, h => by
    have h0 := h 0 a rfl
    simp at h0 ⊢
    omega
  | a :: b :: t, hl, h => by
    have h0 := h 0 a rfl
    have h1 := h 1 b rfl
    have h2 := sum_leN (N := 120) t (fun x hx => by
      obtain ⟨i, hi⟩ := List.mem_iff_getElem?.mp hx
      have := h (i + 2) x hi
      rwa [if_neg (by omega)] at this)
    simp only [List.length_cons] at hl
    have h3 : t.length * 120 ≤ 4 * 120 := Nat.mul_le_mul_right _ (by omega)
    rw [if_neg (by decide)] at h0
    rw [if_pos rfl] at h1
    rw [List.sum_cons, List.sum_cons]
    omega
theorem sz_f {h h' : Hp} (hk : kp h h') (n : ∀ (a : Nat) (c : AC), ln h ≤ a → gt h' a = some c → yz c ≤ if a = ln h + 1 then 4200 else 120) (hl : ln h' ≤ ln h + 6) : ySc h' ≤ ySc h + 4800 := by
  have e1 : (h'.1.take (ln h)).map yz = h.1.map yz := by
    apply List.ext_getElem?
    intro a
    rw [List.getElem?_map, List.getElem?_map, List.getElem?_take]
    by_cases ha : a < ln h
    · rw [if_pos ha]
      have e2 : h.1[a]? = some (h.1[a]'ha) := List.getElem?_eq_getElem ha
      obtain ⟨c', e3, e4⟩ := hk.2 a _ e2
      rw [e3, e2]
      simp [e4]
    · rw [if_neg ha, List.getElem?_eq_none (show h.1.length ≤ a by unfold ln at ha; omega)]
  have e2 : ySc h' = ySc h + ((h'.1.drop (ln h)).map yz).sum := by
    unfold ySc
    rw [← e1, ← List.sum_append, ← List.map_append, List.take_append_drop]
  have e3 := sum6 ((h'.1.drop (ln h)).map yz) (by rw [List.length_map, List.length_drop]; unfold ln at hl ⊢; omega) (fun i x hx => by
    rw [List.getElem?_map, List.getElem?_drop] at hx
    obtain ⟨c, hc, rfl⟩ := Option.map_eq_some_iff.mp hx
    have := n _ c (Nat.le_add_right _ _) hc
    by_cases hi : i = 1
    · rw [if_pos hi]
      rwa [if_pos (by omega)] at this
    · rw [if_neg hi]
      rwa [if_neg (by omega)] at this)
  omega
theorem op_51 (hj : J h T C S cs wr th) (hi : 0 ≤ i ∧ i < 1000000) : ST scr 125 i h := by
  obtain ⟨⟨x0, x1, x3, x6, ⟨es, hl, hc⟩, hsi, hbi, ⟨O, x47⟩⟩, jm, ⟨u0, o1⟩, _, st⟩ := id hj
  obtain ⟨⟨hT, hTr⟩, ⟨hC, hCr⟩, ⟨hS, hSr⟩, ⟨hn, hg⟩, hwr⟩ := id st
  have hn' : es.length ≤ 12 := by rw [hc.1]; exact hn
  have hO := csO_of ⟨hn, hg⟩
  have hnn : ∀ x ∈ C, 0 ≤ x := fun x hx => (hCr x hx).1
  have hs26 : C.sum ≤ 260000 := by have := sumC hCr; omega
  obtain ⟨cr1, cr2⟩ := csR_ok hC hnn hs26
  obtain ⟨h', Wd0, Wd1, b, w0, w1, hb, e, si', f1⟩ := c_Sh_isSound (scr := scr) gHyp_ok x0 x1 x3 hT hTr hC hnn (by omega) cr1 hl hc hn' hsi
  rw [hc.1] at hb
  refine ST_A (th' := 0) hj (CS_of e (Jc_s hj.1 si' f1) (FC_fr f1 (fun a h9 => by omega)) f1.1 (by rw [f1.2.1]; exact Nat.le_succ _)) (fun k1 m l => ?_) (fun g m e1 e2 P => lw_51 hi g m x0 e1 e2) (st)
  obtain ⟨m0, m66, ⟨A, m67, lA, pA⟩, ⟨B, m71, lB, pB⟩, hm, hms, ⟨Wd, hw⟩⟩ := id m
  have bit : bitR (gmF T (List.replicate 26 0 ++ [1]) Wd) := by
    rw [← gl_gm T _ Wd Wd gOk_start hw.2.1 hw.2.1 hTr]
    exact glF_bit T _ Wd
  obtain ⟨h2, Wm1, Wm2, lm1, e2, p1, s2, mw2, f2, l2, n2⟩ := c_Mo_isSound (scr := scr) gHypM_ok m0 m66 hC hnn (by omega) cr2 m67 lA pA hTr hm hO hms hw (by omega) bit
  rw [is_ok hC hnn hs26 hg hTr w0.2 w1.2 hw.2.1 lm1 hb] at e2
  have hk1 : kp k1 h2 := kp_of e2
  have z1 := sz_f hk1 n2 l2
  exact ⟨h2, e2, Jm_s m p1 s2 ⟨Wm2, mw2⟩ (fun a h7 h8 => f2.2.2 a h7 (fun h9 => by omega)), FM_frB f2 (fun a h9 => by omega), l2, by omega, by rw [f2.2.1]; exact Nat.le_refl _⟩
theorem op_1 {a1 a2 a3 a4 a5 a6 a7 a8 a9 : Int} (hj : J h T C S cs wr th) (hi : 0 ≤ i ∧ i < 1000000) (s1 : scr[(i + 1).toNat]? = some a1) (s2 : scr[(i + 2).toNat]? = some a2) (s3 : scr[(i + 3).toNat]? = some a3) (s4 : scr[(i + 4).toNat]? = some a4) (s5 : scr[(i + 5).toNat]? = some a5) (s6 : scr[(i + 6).toNat]? = some a6) (s7 : scr[(i + 7).toNat]? = some a7) (s8 : scr[(i + 8).toNat]? = some a8) (s9 : scr[(i + 9).toNat]? = some a9) (r1 : -2147483648 ≤ a1 ∧ a1 < 2147483648) (r2 : -2147483648 ≤ a2 ∧ a2 < 2147483648) (r3 : -2147483648 ≤ a3 ∧ a3 < 2147483648) (r4 : -2147483648 ≤ a4 ∧ a4 < 2147483648) (r5 : -2147483648 ≤ a5 ∧ a5 < 2147483648) (r6 : -2147483648 ≤ a6 ∧ a6 < 2147483648) (r7 : -2147483648 ≤ a7 ∧ a7 < 2147483648) (r8 : -2147483648 ≤ a8 ∧ a8 < 2147483648) (r9 : -2147483648 ≤ a9 ∧ a9 < 2147483648) : ST scr 5 i h := by
  obtain ⟨⟨x0, x1, x3, x6, ⟨es, hl, hc⟩, hsi, hbi, ⟨O, x47⟩⟩, jm, ⟨u0, o1⟩, _, st⟩ := id hj
  obtain ⟨⟨hT, hTr⟩, ⟨hC, hCr⟩, ⟨hS, hSr⟩, ⟨hn, hg⟩, hwr⟩ := id st
  have c2 : 0 ≤ a2 % 65536 ∧ a2 % 65536 < 65536 := by omega
  have c3 : 0 ≤ a3 % 65536 ∧ a3 % 65536 < 65536 := by omega
  have c4 : 0 ≤ a4 % 65536 ∧ a4 % 65536 < 65536 := by omega
  have c5 : 0 ≤ a5 % 65536 ∧ a5 % 65536 < 65536 := by omega
  have c6 : 0 ≤ a6 % 65536 ∧ a6 % 65536 < 65536 := by omega
  have c7 : 0 ≤ a7 % 65536 ∧ a7 % 65536 < 65536 := by omega
  have c8 : 0 ≤ a8 % 65536 ∧ a8 % 65536 < 65536 := by omega
  have c9 : 0 ≤ a9 % 65536 ∧ a9 % 65536 < 65536 := by omega
  have hch : ∀ x ∈ chL (a2 % 65536) (a3 % 65536) (a4 % 65536) (a5 % 65536) (a6 % 65536) (a7 % 65536) (a8 % 65536) (a9 % 65536), 0 ≤ x ∧ x < 65536 := fun x hx => by
    simp only [List.mem_cons, List.not_mem_nil, or_false] at hx
    omega
  by_cases h1 : 1 ≤ a1 ∧ a1 ≤ 8
  · obtain ⟨m', rfl⟩ := Int.eq_ofNat_of_zero_le (show 0 ≤ a1 by omega)
    have hm' : 1 ≤ m' ∧ m' ≤ 8 := by omega
    obtain ⟨X', e⟩ := c_Sh_typeMore (scr := scr) x0 x1 x47 hT hch hm'
    by_cases h2 : ltR ((chL (a2 % 65536) (a3 % 65536) (a4 % 65536) (a5 % 65536) (a6 % 65536) (a7 % 65536) (a8 % 65536) (a9 % 65536)).take m')
    · have lm : (nmF ((chL (a2 % 65536) (a3 % 65536) (a4 % 65536) (a5 % 65536) (a6 % 65536) (a7 % 65536) (a8 % 65536) (a9 % 65536)).take m')).length = m' := by
        rw [nmF_len, List.length_take]
        show min m' 8 = m'
        omega
      by_cases h3 : T.length + m' ≤ 120
      · simp only [if_pos h2, if_pos h3] at e
        refine ST_ok hj (CS_of e (Jc_1 (Jc_47 hj.1 _) _) (FC_ut _ (FC_ut _ (FC_rf _) (by omega)) (by omega)) (by rw [ln_ut, ln_ut]) (Nat.le_succ _)) (fun e g => w_typeMore_o x0 e g) (fun k1 m l => ?_) (fun g m e1 e2 o P => lw_1 s1 s2 s3 s4 s5 s6 s7 s8 s9 hi g m e1 e2 o (by omega) (fun _ => rfl)) (⟨⟨by rw [List.length_append, lm]; omega, fun x hx => (List.mem_append.mp hx).elim (hTr x) (nmF_r h2 x)⟩, st.2⟩)
        obtain ⟨m0, m66, ⟨A, m67, lA, pA⟩, ⟨B, m71, lB, pB⟩, hm, hms, ⟨Wd, hw⟩⟩ := id m
        obtain ⟨A', lA', pA', e2⟩ := c_Mo_typeMore (scr := scr) m0 m67 lA pA hch hm'
        simp only [if_pos h2, if_pos h3] at e2
        have el : (T ++ nmF ((chL (a2 % 65536) (a3 % 65536) (a4 % 65536) (a5 % 65536) (a6 % 65536) (a7 % 65536) (a8 % 65536) (a9 % 65536)).take m')).length = T.length + m' := by rw [List.length_append, lm]
        refine RS_apT (c := cI 1 (chL (a2 % 65536) (a3 % 65536) (a4 % 65536) (a5 % 65536) (a6 % 65536) (a7 % 65536) (a8 % 65536) (a9 % 65536))) m (by show 8 ≤ 4200; decide) lA' (pA' h3) ?_
        rw [el]
        exact e2
      · simp only [if_pos h2, if_neg h3] at e
        refine ST_ex (rv := vI 0) hj (CS_of e (Jc_xc (Jc_47 hj.1 _)) (FC_xc (FC_ut _ (FC_rf _) (by omega))) (ln_ut ..) (Nat.le_refl _)) (fun e => w_typeMore_9 x0 e) (fun k1 m l => ?_) (fun g m e1 e2 o P => lw_1 s1 s2 s3 s4 s5 s6 s7 s8 s9 hi g m e1 e2 o (by omega) (fun h9 => absurd h9 (by omega)))
        obtain ⟨m0, m66, ⟨A, m67, lA, pA⟩, ⟨B, m71, lB, pB⟩, hm, hms, ⟨Wd, hw⟩⟩ := id m
        obtain ⟨A', lA', pA', e2⟩ := c_Mo_typeMore (scr := scr) m0 m67 lA pA hch hm'
        simp only [if_pos h2, if_neg h3] at e2
        exact RS_apu m (by show 8 ≤ 4200; decide) e2
    · simp only [if_neg h2] at e
      refine ST_ex (rv := vI 0) hj (CS_of e (Jc_xc (Jc_47 hj.1 _)) (FC_xc (FC_ut _ (FC_rf _) (by omega))) (ln_ut ..) (Nat.le_refl _)) (fun e => w_typeMore_8 x0 e) (fun k1 m l => ?_) (fun g m e1 e2 o P => lw_1 s1 s2 s3 s4 s5 s6 s7 s8 s9 hi g m e1 e2 o (by omega) (fun h9 => absurd h9 (by omega)))
      obtain ⟨m0, m66, ⟨A, m67, lA, pA⟩, ⟨B, m71, lB, pB⟩, hm, hms, ⟨Wd, hw⟩⟩ := id m
      obtain ⟨A', lA', pA', e2⟩ := c_Mo_typeMore (scr := scr) m0 m67 lA pA hch hm'
      simp only [if_neg h2] at e2
      exact RS_apu m (by show 8 ≤ 4200; decide) e2
  · have e := fun P => c_Sh_typeMoreE (scr := scr) (P := P) (a := a2 % 65536) (b := a3 % 65536) (c := a4 % 65536) (d := a5 % 65536) (e := a6 % 65536) (f := a7 % 65536) (g := a8 % 65536) (i := a9 % 65536) x0 r1 (by omega)
    refine ST_ex (rv := vI 0) hj (CS_x e hj.1) (fun e => w_typeMore_8 x0 e) (fun k1 m l => ?_) (fun g m e1 e2 o P => lw_1 s1 s2 s3 s4 s5 s6 s7 s8 s9 hi g m e1 e2 o (by omega) (fun h9 => absurd h9 (by omega)))
    obtain ⟨m0, m66, ⟨A, m67, lA, pA⟩, ⟨B, m71, lB, pB⟩, hm, hms, ⟨Wd, hw⟩⟩ := id m
    exact RS_apu m (by show 8 ≤ 4200; decide) (fun P => c_Mo_typeMoreE m0 hch r1 (by omega))
end
