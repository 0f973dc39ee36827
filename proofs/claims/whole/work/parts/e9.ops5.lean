/-! THE LAW op by op: streams -/
section
variable {scr : List Int} {h : Hp} {T C S : List Int} {cs : List cdT} {wr : Nat} {th i : Int}
theorem MS_eq {h' : Hp} (hs : MS h) (f : ∀ a, 72 ≤ a → a ≤ 191 → a < ln h → gt h' a = gt h a) : MS h' := by
  obtain ⟨⟨X1, a1, l1⟩, ⟨X2, a2, l2⟩, ⟨X3, a3, l3⟩, ⟨X4, a4, l4⟩, ⟨X5, a5, l5⟩, ⟨X6, a6, l6⟩, ⟨X7, a7, l7⟩, ⟨X8, a8, l8⟩, ⟨X9, a9, l9⟩, ⟨X10, a10, l10⟩, ⟨b1, b2, b3, b4, ⟨Y0, b5, c5⟩, ⟨Y1, b6, c6⟩, b7, b8⟩⟩ := hs
  have k : ∀ {a : Nat} {c : AC}, 72 ≤ a → a ≤ 191 → gt h a = some c → gt h' a = some c := fun h1 h2 hc => (f _ h1 h2 (gt_lt hc)).trans hc
  refine ⟨⟨X1, k (by omega) (by omega) a1, l1⟩, ⟨X2, k (by omega) (by omega) a2, l2⟩, ⟨X3, k (by omega) (by omega) a3, l3⟩, ⟨X4, k (by omega) (by omega) a4, l4⟩, ⟨X5, k (by omega) (by omega) a5, l5⟩, ⟨X6, k (by omega) (by omega) a6, l6⟩, ⟨X7, k (by omega) (by omega) a7, l7⟩, ⟨X8, k (by omega) (by omega) a8, l8⟩, ⟨X9, k (by omega) (by omega) a9, l9⟩, ⟨X10, k (by omega) (by omega) a10, l10⟩, ⟨k (by omega) (by omega) b1, k (by omega) (by omega) b2, k (by omega) (by omega) b3, k (by omega) (by omega) b4, ⟨Y0, k (by omega) (by omega) b5, c5⟩, ⟨Y1, k (by omega) (by omega) b6, c6⟩, fun i hi => ?_, fun i hi => ?_⟩⟩
  · obtain ⟨X, x1, x2⟩ := b7 i hi
    exact ⟨X, k (by omega) (by omega) x1, x2⟩
  · obtain ⟨X, x1, x2⟩ := b8 i hi
    exact ⟨X, k (by omega) (by omega) x1, x2⟩
/-- the stream changed -/
theorem Jm_S {h' : Hp} {S' B' : List Int} {wr' : Nat} {th' : Int} (hj : Jm h T C S cs wr th) (m0 : gt h' 65 = some (mK (T.length : Nat) (cs.length : Nat) (S'.length : Nat) wr' th')) (m71 : gt h' 71 = some (cI 0 B')) (hB : B'.length = 4200) (hp : pre B' S') (f : ∀ a, a < ln h → a ≠ 65 → a ≠ 71 → gt h' a = gt h a) : Jm h' T C S' cs wr' th' := by
  obtain ⟨m0', m66, ⟨A, m67, l67⟩, _, hm, hs, ⟨Wd, w1, w2⟩⟩ := id hj
  exact Jm_up hj m0 ((f _ (gt_lt m66) (by omega) (by omega)).trans m66) ⟨A, (f _ (gt_lt m67) (by omega) (by omega)).trans m67, l67⟩ ⟨B', m71, hB, hp⟩ (fun a h1 h2 => f a h2 (by omega) (by omega)) (MS_eq hs (fun a h1 h2 h3 => f a h3 (by omega) (by omega))) ⟨Wd, (f _ (gt_lt w1) (by omega) (by omega)).trans w1, w2⟩
theorem RS_65S {h1 : Hp} {y : Nat} {as : List AV} {v : AV} {th' : Int} {S' B' : List Int} {wr' : Nat} (m : Jm h1 T C S cs wr th) (lB : B'.length = 4200) (pB : pre B' S') (e2 : ∀ P, Cy scr y as h1 P = P (.inl (some v), ut (ut h1 65 (mK (T.length : Nat) (cs.length : Nat) (S'.length : Nat) wr' th')) 71 (cI 0 B'))) : RS scr h1 y as v T C S' cs wr' th' := by
  obtain ⟨m0, m66, ⟨A0, m67, _⟩, ⟨B, m71, _⟩, _⟩ := id m
  exact RS_of e2 (Jm_S m ((gt_ne _ _ (by omega)).trans (gt_eq _ _ (gt_lt m0))) (gt_eq _ _ (by rw [ln_ut]; exact gt_lt m71)) lB pB (fun a h1 h2 h3 => (gt_ne _ _ (by omega)).trans (gt_ne _ _ (by omega)))) (FM_ut _ (FM_ut _ (FM_rf _) (by omega)) (by omega)) (by rw [ln_ut, ln_ut]; exact Nat.le_refl _) (Nat.le_refl _)
theorem pre_yput {A T : List Int} {p : Nat} {v : Int} (hp : pre A T) (h : p < T.length) : pre (yput A p v) (yput T p v) := by
  obtain ⟨h1, h2⟩ := hp
  refine ⟨by rw [yput_len, yput_len]; exact h1, ?_⟩
  rw [yput_len, yput_n, yput_n]
  exact yput_take h h2
theorem op_39 {a1 : Int} (hj : J h T C S cs wr th) (hi : 0 ≤ i ∧ i < 1000000) (s1 : scr[(i + 1).toNat]? = some a1) (r1 : -2147483648 ≤ a1 ∧ a1 < 2147483648) : ST scr 93 i h := by
  obtain ⟨⟨x0, x1, x3, x6, ⟨es, hl, hc⟩, hsi, hbi, ⟨O, x47⟩⟩, jm, ⟨u0, o1⟩, _, st⟩ := id hj
  obtain ⟨⟨hT, hTr⟩, ⟨hC, hCr⟩, ⟨hS, hSr⟩, ⟨hn, hg⟩, hwr⟩ := id st
  have hSl : S.length < 10000 := by omega
  have e := fun P => c_Sh_bitAt (scr := scr) (P := P) x0 x6 hSl r1
  by_cases h1 : 0 ≤ a1 ∧ a1 < (S.length : Int)
  · simp only [if_pos h1] at e
    refine ST_ok hj (CS_same e hj.1) (fun e g => w_bitAt_o x0 e g) (fun k1 m l => ?_) (fun g m e1 e2 o P => lw_39 s1 hi g m e1 e2 o (by omega) (fun _ => rfl)) (st)
    obtain ⟨m0, m66, ⟨A, m67, lA, pA⟩, ⟨B, m71, lB, pB⟩, hm, hms, ⟨Wd, hw⟩⟩ := id m
    have e2 := fun P => c_Mo_bitAt (scr := scr) (P := P) m0 m71 lB (by omega) r1
    simp only [if_pos h1, pre_at pB h1] at e2
    exact RS_65 m e2
  · simp only [if_neg h1] at e
    refine ST_ex (rv := vI 0) hj (CS_x e hj.1) (fun e => w_bitAt_10 x0 e) (fun k1 m l => ?_) (fun g m e1 e2 o P => lw_39 s1 hi g m e1 e2 o (by omega) (fun h9 => absurd h9 (by omega)))
    obtain ⟨m0, m66, ⟨A, m67, lA, pA⟩, ⟨B, m71, lB, pB⟩, hm, hms, ⟨Wd, hw⟩⟩ := id m
    have e2 := fun P => c_Mo_bitAt (scr := scr) (P := P) m0 m71 lB (by omega) r1
    simp only [if_neg h1] at e2
    exact RS_65 m e2
theorem op_40 {a1 : Int} (hj : J h T C S cs wr th) (hi : 0 ≤ i ∧ i < 1000000) (s1 : scr[(i + 1).toNat]? = some a1) (r1 : -2147483648 ≤ a1 ∧ a1 < 2147483648) : ST scr 96 i h := by
  obtain ⟨⟨x0, x1, x3, x6, ⟨es, hl, hc⟩, hsi, hbi, ⟨O, x47⟩⟩, jm, ⟨u0, o1⟩, _, st⟩ := id hj
  obtain ⟨⟨hT, hTr⟩, ⟨hC, hCr⟩, ⟨hS, hSr⟩, ⟨hn, hg⟩, hwr⟩ := id st
  have hSl : S.length < 10000 := by omega
  have e := fun P => c_Sh_turn (scr := scr) (P := P) x0 x6 hSl r1
  by_cases h1 : 0 ≤ a1 ∧ a1 < (S.length : Int)
  · obtain ⟨p, rfl⟩ := Int.eq_ofNat_of_zero_le h1.1
    simp only [if_pos h1] at e
    have hb := yat_bit hSr p
    refine ST_ok hj (CS_of e (Jc_6 hj.1 _) (FC_ut _ (FC_rf _) (by omega)) (ln_ut ..) (Nat.le_succ _)) (fun e g => w_turn_o x0 e g) (fun k1 m l => ?_) (fun g m e1 e2 o P => lw_40 s1 hi g m e1 e2 o (by omega) (fun _ => rfl)) (⟨st.1, st.2.1, ⟨by rw [yput_len]; exact hS, yput_all (Q := fun x => x = 0 ∨ x = 1) hSr (by omega)⟩, st.2.2.2⟩)
    obtain ⟨m0, m66, ⟨A, m67, lA, pA⟩, ⟨B, m71, lB, pB⟩, hm, hms, ⟨Wd, hw⟩⟩ := id m
    have e2 := fun P => c_Mo_turn (scr := scr) (P := P) m0 m71 lB (by omega) r1
    simp only [if_pos h1, pre_at pB h1] at e2
    have el : (yput S p (1 - yat S p)).length = S.length := yput_len _ _ _
    refine RS_65S m (by rw [yput_len]; exact lB) (pre_yput pB (by omega)) ?_
    rw [el]
    exact e2
  · simp only [if_neg h1] at e
    refine ST_ex (rv := vI 0) hj (CS_x e hj.1) (fun e => w_turn_10 x0 e) (fun k1 m l => ?_) (fun g m e1 e2 o P => lw_40 s1 hi g m e1 e2 o (by omega) (fun h9 => absurd h9 (by omega)))
    obtain ⟨m0, m66, ⟨A, m67, lA, pA⟩, ⟨B, m71, lB, pB⟩, hm, hms, ⟨Wd, hw⟩⟩ := id m
    have e2 := fun P => c_Mo_turn (scr := scr) (P := P) m0 m71 lB (by omega) r1
    simp only [if_neg h1] at e2
    exact RS_65 m e2
theorem op_41 {a1 : Int} (hj : J h T C S cs wr th) (hi : 0 ≤ i ∧ i < 1000000) (s1 : scr[(i + 1).toNat]? = some a1) (r1 : -2147483648 ≤ a1 ∧ a1 < 2147483648) : ST scr 99 i h := by
  obtain ⟨⟨x0, x1, x3, x6, ⟨es, hl, hc⟩, hsi, hbi, ⟨O, x47⟩⟩, jm, ⟨u0, o1⟩, _, st⟩ := id hj
  obtain ⟨⟨hT, hTr⟩, ⟨hC, hCr⟩, ⟨hS, hSr⟩, ⟨hn, hg⟩, hwr⟩ := id st
  have hSl : S.length < 10000 := by omega
  have e := fun P => c_Sh_byteAt (scr := scr) (P := P) x0 x6 hSl r1
  by_cases h1 : 0 ≤ a1 ∧ a1 < ((S.length : Int) + 7) / 8
  · simp only [if_pos h1] at e
    refine ST_ok hj (CS_same e hj.1) (fun e g => w_byteAt_o x0 e g) (fun k1 m l => ?_) (fun g m e1 e2 o P => lw_41 s1 hi g m e1 e2 o (by omega) (fun _ => rfl)) (st)
    obtain ⟨m0, m66, ⟨A, m67, lA, pA⟩, ⟨B, m71, lB, pB⟩, hm, hms, ⟨Wd, hw⟩⟩ := id m
    have e2 := fun P => c_Mo_byteAt (scr := scr) (P := P) m0 m71 pB lB r1
    simp only [if_pos h1] at e2
    exact RS_65 m e2
  · simp only [if_neg h1] at e
    refine ST_ex (rv := vI 0) hj (CS_x e hj.1) (fun e => w_byteAt_10 x0 e) (fun k1 m l => ?_) (fun g m e1 e2 o P => lw_41 s1 hi g m e1 e2 o (by omega) (fun h9 => absurd h9 (by omega)))
    obtain ⟨m0, m66, ⟨A, m67, lA, pA⟩, ⟨B, m71, lB, pB⟩, hm, hms, ⟨Wd, hw⟩⟩ := id m
    have e2 := fun P => c_Mo_byteAt (scr := scr) (P := P) m0 m71 pB lB r1
    simp only [if_neg h1] at e2
    exact RS_65 m e2
theorem op_33 {a1 : Int} (hj : J h T C S cs wr th) (hi : 0 ≤ i ∧ i < 1000000) (s1 : scr[(i + 1).toNat]? = some a1) (r1 : -2147483648 ≤ a1 ∧ a1 < 2147483648) : ST scr 83 i h := by
  obtain ⟨⟨x0, x1, x3, x6, ⟨es, hl, hc⟩, hsi, hbi, ⟨O, x47⟩⟩, jm, ⟨u0, o1⟩, _, st⟩ := id hj
  obtain ⟨⟨hT, hTr⟩, ⟨hC, hCr⟩, ⟨hS, hSr⟩, ⟨hn, hg⟩, hwr⟩ := id st
  have hn' : es.length ≤ 12 := by rw [hc.1]; exact hn
  have hO := csO_of ⟨hn, hg⟩
  have e := fun P => c_Sh_write (scr := scr) (P := P) x0 x1 x6 hT hTr hl hc hn' r1
  by_cases h1 : 0 ≤ a1 ∧ a1 < (es.length : Int)
  · obtain ⟨c, rfl⟩ := Int.eq_ofNat_of_zero_le h1.1
    have hcl : c < cs.length := by rw [← hc.1]; omega
    simp only [if_pos h1, Int.toNat_natCast] at e
    have hgc := hg _ (mem_getD (d := cd0) hcl)
    by_cases h2 : (cs.getD c cd0).1 = 116
    · simp only [if_pos h2] at e
      refine ST_ex (rv := vI 0) hj (CS_x e hj.1) (fun e => w_write_12 x0 e) (fun k1 m l => ?_) (fun g m e1 e2 o P => lw_33 s1 hi g m e1 e2 o (by omega) (fun h9 => absurd h9 (by omega)))
      obtain ⟨m0, m66, ⟨A, m67, lA, pA⟩, ⟨B, m71, lB, pB⟩, hm, hms, ⟨Wd, hw⟩⟩ := id m
      have e2 := fun P => c_Mo_writeE2 (scr := scr) (P := P) m0 m67 lA pA hTr hm hO hcl (.inl h2)
      simp only [if_pos h2] at e2
      exact RS_65 m e2
    · by_cases h3 : hwF (cs.getD c cd0).2.1 T = 1
      · simp only [if_neg h2, if_pos h3] at e
        refine ST_ok hj (CS_of e (Jc_0 (Jc_6 hj.1 _) _) (FC_ut _ (FC_ut _ (FC_rf _) (by omega)) (by omega)) (by rw [ln_ut, ln_ut]) (Nat.le_succ _)) (fun e g => w_write_o x0 e g) (fun k1 m l => ?_) (fun g m e1 e2 o P => lw_33 s1 hi g m e1 e2 o (by omega) (fun _ => rfl)) (⟨st.1, st.2.1, ⟨by have := ltF_len (W := (cs.getD c cd0).2.2) hgc.1.2.2.1 T; omega, ltF_bit _ _ _⟩, st.2.2.2.1, hT⟩)
        obtain ⟨m0, m66, ⟨A, m67, lA, pA⟩, ⟨B, m71, lB, pB⟩, hm, hms, ⟨Wd, hw⟩⟩ := id m
        obtain ⟨B', lB', pB', e2⟩ := c_Mo_write (scr := scr) m0 m67 m71 lB lA pA hTr hm hO hcl h2 h3
        exact RS_65S m lB' pB' e2
      · simp only [if_neg h2, if_neg h3] at e
        refine ST_ex (rv := vI 0) hj (CS_x e hj.1) (fun e => w_write_11 x0 e) (fun k1 m l => ?_) (fun g m e1 e2 o P => lw_33 s1 hi g m e1 e2 o (by omega) (fun h9 => absurd h9 (by omega)))
        obtain ⟨m0, m66, ⟨A, m67, lA, pA⟩, ⟨B, m71, lB, pB⟩, hm, hms, ⟨Wd, hw⟩⟩ := id m
        have e2 := fun P => c_Mo_writeE2 (scr := scr) (P := P) m0 m67 lA pA hTr hm hO hcl (.inr ((hwF_01 _ _).resolve_right h3))
        simp only [if_neg h2] at e2
        exact RS_65 m e2
  · simp only [if_neg h1] at e
    refine ST_ex (rv := vI 0) hj (CS_x e hj.1) (fun e => w_write_10 x0 e) (fun k1 m l => ?_) (fun g m e1 e2 o P => lw_33 s1 hi g m e1 e2 o (by omega) (fun h9 => absurd h9 (by omega)))
    obtain ⟨m0, m66, ⟨A, m67, lA, pA⟩, ⟨B, m71, lB, pB⟩, hm, hms, ⟨Wd, hw⟩⟩ := id m
    exact RS_65 m (fun P => c_Mo_writeE m0 hO r1 (by rw [← hc.1]; omega))
theorem op_34 {a1 : Int} (hj : J h T C S cs wr th) (hi : 0 ≤ i ∧ i < 1000000) (s1 : scr[(i + 1).toNat]? = some a1) (r1 : -2147483648 ≤ a1 ∧ a1 < 2147483648) : ST scr 86 i h := by
  obtain ⟨⟨x0, x1, x3, x6, ⟨es, hl, hc⟩, hsi, hbi, ⟨O, x47⟩⟩, jm, ⟨u0, o1⟩, _, st⟩ := id hj
  obtain ⟨⟨hT, hTr⟩, ⟨hC, hCr⟩, ⟨hS, hSr⟩, ⟨hn, hg⟩, hwr⟩ := id st
  have hn' : es.length ≤ 12 := by rw [hc.1]; exact hn
  have hO := csO_of ⟨hn, hg⟩
  obtain ⟨sp, x59⟩ := hsi.2.2.2.1
  have e := fun P => c_Sh_read (scr := scr) (P := P) x0 x1 x6 x59 hSr (by omega) (by omega) hl hc hn' r1
  by_cases h1 : 0 ≤ a1 ∧ a1 < (es.length : Int)
  · obtain ⟨c, rfl⟩ := Int.eq_ofNat_of_zero_le h1.1
    have hcl : c < cs.length := by rw [← hc.1]; omega
    simp only [if_pos h1, Int.toNat_natCast] at e
    have hgc := hg _ (mem_getD (d := cd0) hcl)
    by_cases h2 : (cs.getD c cd0).1 = 116
    · simp only [if_pos h2] at e
      refine ST_ex (rv := vI 0) hj (CS_x e hj.1) (fun e => w_read_12 x0 e) (fun k1 m l => ?_) (fun g m e1 e2 o P => lw_34 s1 hi g m e1 e2 o (by omega) (fun h9 => absurd h9 (by omega)))
      obtain ⟨m0, m66, ⟨A, m67, lA, pA⟩, ⟨B, m71, lB, pB⟩, hm, hms, ⟨Wd, hw⟩⟩ := id m
      exact RS_65 m (fun P => c_Mo_readE2 m0 hm hO hcl h2)
    · simp only [if_neg h2, Int.toNat_natCast] at e
      rw [gt_rm hSr (ap_wok (gd_2 hgc h2) (gd_25 hgc)) (gd_25 hgc) wr 0 (by omega)] at e
      refine ST_ok hj (CS_of e (Jc_1 (Jc_59 hj.1 _) _) (FC_ut _ (FC_ut _ (FC_rf _) (by omega)) (by omega)) (by rw [ln_ut, ln_ut]) (Nat.le_succ _)) (fun e g => w_read_o x0 e g) (fun k1 m l => ?_) (fun g m e1 e2 o P => lw_34 s1 hi g m e1 e2 o (by omega) (fun _ => rfl)) (⟨⟨by have := rmF_len (cs.getD c cd0).2.1 (cs.getD c cd0).2.2 S wr 0; omega, rmF_all hgc.1.2.1 _ _⟩, st.2⟩)
      obtain ⟨m0, m66, ⟨A, m67, lA, pA⟩, ⟨B, m71, lB, pB⟩, hm, hms, ⟨Wd, hw⟩⟩ := id m
      obtain ⟨A', lA', pA', e2⟩ := c_Mo_read (scr := scr) m0 m67 m71 lB pB hSr lA hm hO hcl hwr h2
      exact RS_65T m lA' pA' e2
  · simp only [if_neg h1] at e
    refine ST_ex (rv := vI 0) hj (CS_x e hj.1) (fun e => w_read_10 x0 e) (fun k1 m l => ?_) (fun g m e1 e2 o P => lw_34 s1 hi g m e1 e2 o (by omega) (fun h9 => absurd h9 (by omega)))
    obtain ⟨m0, m66, ⟨A, m67, lA, pA⟩, ⟨B, m71, lB, pB⟩, hm, hms, ⟨Wd, hw⟩⟩ := id m
    exact RS_65 m (fun P => c_Mo_readE m0 hO r1 (by rw [← hc.1]; omega))
theorem no0_of {L : List Int} (h : L.count 0 = 0) : no0 L := fun s hs h9 => by
  have h1 : (0 : Int) ∈ L := by
    rw [← h9, yat_n]
    exact mem_getD hs
  exact absurd (List.count_pos_iff.mpr h1) (by omega)
theorem RS_80 {h1 : Hp} {y : Nat} {as : List AV} {v : AV} {th' : Int} {X Y : List Int} (m : Jm h1 T C S cs wr th) (lX : X.length = 4201) (lY : Y.length = 4201) (e2 : ∀ P, Cy scr y as h1 P = P (.inl (some v), ut (ut (ut h1 65 (mK (T.length : Nat) (cs.length : Nat) (S.length : Nat) wr th')) 80 (cI 2 X)) 81 (cI 2 Y))) : RS scr h1 y as v T C S cs wr th' := by
  obtain ⟨m0, m66, ⟨A0, m67, _⟩, ⟨B, m71, _⟩, _, hms, ⟨Wd, hw⟩⟩ := id m
  have m1 := Jm_65 m th'
  refine RS_of e2 (Jm_s m ((gt_ne _ _ (by omega)).trans ((gt_ne _ _ (by omega)).trans (gt_eq _ _ (gt_lt m0)))) (MS_ut (MS_ut m1.2.2.2.2.2.1 (.inr (.inr (.inr (.inr (.inr (.inr (.inr (.inr (.inl ⟨rfl, X, rfl, lX⟩)))))))))) (.inr (.inr (.inr (.inr (.inr (.inr (.inr (.inr (.inr (.inl ⟨rfl, Y, rfl, lY⟩))))))))))) ⟨Wd, (gt_ne _ _ (by omega)).trans ((gt_ne _ _ (by omega)).trans ((gt_ne _ _ (by omega)).trans hw.1)), hw.2⟩ (fun a h1 h2 => (gt_ne _ _ (by omega)).trans ((gt_ne _ _ (by omega)).trans (gt_ne _ _ (by omega))))) (FM_ut _ (FM_ut _ (FM_ut _ (FM_rf _) (by omega)) (by omega)) (by omega)) (by rw [ln_ut, ln_ut, ln_ut]; exact Nat.le_refl _) (Nat.le_refl _)
theorem op_42 {a1 a2 : Int} (hj : J h T C S cs wr th) (hi : 0 ≤ i ∧ i < 1000000) (s1 : scr[(i + 1).toNat]? = some a1) (s2 : scr[(i + 2).toNat]? = some a2) (r1 : -2147483648 ≤ a1 ∧ a1 < 2147483648) (r2 : -2147483648 ≤ a2 ∧ a2 < 2147483648) : ST scr 102 i h := by
  obtain ⟨⟨x0, x1, x3, x6, ⟨es, hl, hc⟩, hsi, hbi, ⟨O, x47⟩⟩, jm, ⟨u0, o1⟩, _, st⟩ := id hj
  obtain ⟨⟨hT, hTr⟩, ⟨hC, hCr⟩, ⟨hS, hSr⟩, ⟨hn, hg⟩, hwr⟩ := id st
  have hn' : es.length ≤ 12 := by rw [hc.1]; exact hn
  have hO := csO_of ⟨hn, hg⟩
  have e := fun P => c_Sh_inStep (scr := scr) (P := P) x0 x6 hSr (by omega) hl hc hn' r1 r2
  by_cases h1 : 0 ≤ a1 ∧ a1 < (es.length : Int)
  · by_cases h2 : 0 ≤ a2 ∧ a2 < (S.length : Int)
    · obtain ⟨c, rfl⟩ := Int.eq_ofNat_of_zero_le h1.1
      obtain ⟨p, rfl⟩ := Int.eq_ofNat_of_zero_le h2.1
      have hcl : c < cs.length := by rw [← hc.1]; omega
      have hgc := hg _ (mem_getD (d := cd0) hcl)
      simp only [if_pos h1, if_pos h2] at e
      rw [Int.toNat_natCast c] at e
      by_cases h3 : (cs.getD c cd0).1 = 116
      · simp only [if_pos h3] at e
        refine ST_ex (rv := vI 0) hj (CS_x e hj.1) (fun e => w_inStep_12 x0 e) (fun k1 m l => ?_) (fun g m e1 e2 o P => lw_42 s1 s2 hi g m e1 e2 o (by omega) (fun h9 => absurd h9 (by omega)))
        obtain ⟨m0, m66, ⟨A, m67, lA, pA⟩, ⟨B, m71, lB, pB⟩, hm, hms, ⟨Wd, hw⟩⟩ := id m
        exact RS_65 m (fun P => c_Mo_inStepE2 m0 hm hO hcl (by omega) (by omega) (fun h9 => h9.1 h3))
      · by_cases h4 : 0 < (cs.getD c cd0).2.1.count 0
        · simp only [if_neg h3, if_pos h4] at e
          refine ST_ex (rv := vI 0) hj (CS_x e hj.1) (fun e => w_inStep_12 x0 e) (fun k1 m l => ?_) (fun g m e1 e2 o P => lw_42 s1 s2 hi g m e1 e2 o (by omega) (fun h9 => absurd h9 (by omega)))
          obtain ⟨m0, m66, ⟨A, m67, lA, pA⟩, ⟨B, m71, lB, pB⟩, hm, hms, ⟨Wd, hw⟩⟩ := id m
          exact RS_65 m (fun P => c_Mo_inStepE2 m0 hm hO hcl (by omega) (by omega) (fun h9 => by have := h9.2; omega))
        · simp only [if_neg h3, if_neg h4] at e
          have h5 : stB (cs.getD c cd0) := ⟨h3, by omega⟩
          have h6 : no0 (cs.getD c cd0).2.1 := no0_of h5.2
          rw [in_step hSr (gd_2 hgc h3) (gd_25 hgc) h6 hS (by omega)] at e
          refine ST_ok hj (CS_same e hj.1) (fun e g => w_inStep_o x0 e g) (fun k1 m l => ?_) (fun g m e1 e2 o P => lw_42 s1 s2 hi g m e1 e2 o (by omega) (fun _ => rfl)) (st)
          obtain ⟨m0, m66, ⟨A, m67, lA, pA⟩, ⟨B, m71, lB, pB⟩, hm, hms, ⟨Wd, hw⟩⟩ := id m
          obtain ⟨X, m80, lX⟩ := hms.2.2.2.2.2.2.2.2.1
          obtain ⟨Y, m81, lY⟩ := hms.2.2.2.2.2.2.2.2.2.1
          exact RS_80 m (enA_len _ _ _) (enA_len _ _ _) (fun P => c_Mo_inStep m0 m71 lB pB hSr m80 lX m81 lY hm hO hcl (by omega) h5)
    · simp only [if_pos h1, if_neg h2] at e
      refine ST_ex (rv := vI 0) hj (CS_x e hj.1) (fun e => w_inStep_10 x0 e) (fun k1 m l => ?_) (fun g m e1 e2 o P => lw_42 s1 s2 hi g m e1 e2 o (by omega) (fun h9 => absurd h9 (by omega)))
      obtain ⟨m0, m66, ⟨A, m67, lA, pA⟩, ⟨B, m71, lB, pB⟩, hm, hms, ⟨Wd, hw⟩⟩ := id m
      exact RS_65 m (fun P => c_Mo_inStepE m0 hO (by omega) r1 r2 (.inr (by omega)))
  · simp only [if_neg h1] at e
    refine ST_ex (rv := vI 0) hj (CS_x e hj.1) (fun e => w_inStep_10 x0 e) (fun k1 m l => ?_) (fun g m e1 e2 o P => lw_42 s1 s2 hi g m e1 e2 o (by omega) (fun h9 => absurd h9 (by omega)))
    obtain ⟨m0, m66, ⟨A, m67, lA, pA⟩, ⟨B, m71, lB, pB⟩, hm, hms, ⟨Wd, hw⟩⟩ := id m
    exact RS_65 m (fun P => c_Mo_inStepE m0 hO (by omega) r1 r2 (.inl (by rw [← hc.1]; omega)))
theorem op_43 {a1 a2 : Int} (hj : J h T C S cs wr th) (hi : 0 ≤ i ∧ i < 1000000) (s1 : scr[(i + 1).toNat]? = some a1) (s2 : scr[(i + 2).toNat]? = some a2) (r1 : -2147483648 ≤ a1 ∧ a1 < 2147483648) (r2 : -2147483648 ≤ a2 ∧ a2 < 2147483648) : ST scr 105 i h := by
  obtain ⟨⟨x0, x1, x3, x6, ⟨es, hl, hc⟩, hsi, hbi, ⟨O, x47⟩⟩, jm, ⟨u0, o1⟩, _, st⟩ := id hj
  obtain ⟨⟨hT, hTr⟩, ⟨hC, hCr⟩, ⟨hS, hSr⟩, ⟨hn, hg⟩, hwr⟩ := id st
  have hn' : es.length ≤ 12 := by rw [hc.1]; exact hn
  have hO := csO_of ⟨hn, hg⟩
  have e := fun P => c_Sh_lost (scr := scr) (P := P) x0 x6 hSr (by omega) hl hc hn' r1 r2
  by_cases h1 : 0 ≤ a1 ∧ a1 < (es.length : Int)
  · by_cases h2 : 0 ≤ a2 ∧ a2 < (S.length : Int)
    · obtain ⟨c, rfl⟩ := Int.eq_ofNat_of_zero_le h1.1
      obtain ⟨p, rfl⟩ := Int.eq_ofNat_of_zero_le h2.1
      have hcl : c < cs.length := by rw [← hc.1]; omega
      have hgc := hg _ (mem_getD (d := cd0) hcl)
      simp only [if_pos h1, if_pos h2] at e
      rw [Int.toNat_natCast c] at e
      by_cases h3 : (cs.getD c cd0).1 = 116
      · simp only [if_pos h3] at e
        refine ST_ex (rv := vI 0) hj (CS_x e hj.1) (fun e => w_lost_12 x0 e) (fun k1 m l => ?_) (fun g m e1 e2 o P => lw_43 s1 s2 hi g m e1 e2 o (by omega) (fun h9 => absurd h9 (by omega)))
        obtain ⟨m0, m66, ⟨A, m67, lA, pA⟩, ⟨B, m71, lB, pB⟩, hm, hms, ⟨Wd, hw⟩⟩ := id m
        exact RS_65 m (fun P => c_Mo_lostE2 m0 hm hO hcl (by omega) (by omega) (fun h9 => h9.1 h3))
      · by_cases h4 : 0 < (cs.getD c cd0).2.1.count 0
        · simp only [if_neg h3, if_pos h4] at e
          refine ST_ex (rv := vI 0) hj (CS_x e hj.1) (fun e => w_lost_12 x0 e) (fun k1 m l => ?_) (fun g m e1 e2 o P => lw_43 s1 s2 hi g m e1 e2 o (by omega) (fun h9 => absurd h9 (by omega)))
          obtain ⟨m0, m66, ⟨A, m67, lA, pA⟩, ⟨B, m71, lB, pB⟩, hm, hms, ⟨Wd, hw⟩⟩ := id m
          exact RS_65 m (fun P => c_Mo_lostE2 m0 hm hO hcl (by omega) (by omega) (fun h9 => by have := h9.2; omega))
        · simp only [if_neg h3, if_neg h4] at e
          have h5 : stB (cs.getD c cd0) := ⟨h3, by omega⟩
          have h6 : no0 (cs.getD c cd0).2.1 := no0_of h5.2
          rw [lost_ok hSr (gd_2 hgc h3) (gd_25 hgc) h6 hS (by omega)] at e
          refine ST_ok hj (CS_same e hj.1) (fun e g => w_lost_o x0 e g) (fun k1 m l => ?_) (fun g m e1 e2 o P => lw_43 s1 s2 hi g m e1 e2 o (by omega) (fun _ => rfl)) (st)
          obtain ⟨m0, m66, ⟨A, m67, lA, pA⟩, ⟨B, m71, lB, pB⟩, hm, hms, ⟨Wd, hw⟩⟩ := id m
          obtain ⟨X, m80, lX⟩ := hms.2.2.2.2.2.2.2.2.1
          obtain ⟨Y, m81, lY⟩ := hms.2.2.2.2.2.2.2.2.2.1
          obtain ⟨X', lX', e2⟩ := c_Mo_lost (scr := scr) (p := p) m0 m71 lB pB hSr m80 lX m81 lY hm hO hcl (by omega) h5
          exact RS_80 m (enA_len _ _ _) lX' e2
    · simp only [if_pos h1, if_neg h2] at e
      refine ST_ex (rv := vI 0) hj (CS_x e hj.1) (fun e => w_lost_10 x0 e) (fun k1 m l => ?_) (fun g m e1 e2 o P => lw_43 s1 s2 hi g m e1 e2 o (by omega) (fun h9 => absurd h9 (by omega)))
      obtain ⟨m0, m66, ⟨A, m67, lA, pA⟩, ⟨B, m71, lB, pB⟩, hm, hms, ⟨Wd, hw⟩⟩ := id m
      exact RS_65 m (fun P => c_Mo_lostE m0 hO (by omega) r1 r2 (.inr (by omega)))
  · simp only [if_neg h1] at e
    refine ST_ex (rv := vI 0) hj (CS_x e hj.1) (fun e => w_lost_10 x0 e) (fun k1 m l => ?_) (fun g m e1 e2 o P => lw_43 s1 s2 hi g m e1 e2 o (by omega) (fun h9 => absurd h9 (by omega)))
    obtain ⟨m0, m66, ⟨A, m67, lA, pA⟩, ⟨B, m71, lB, pB⟩, hm, hms, ⟨Wd, hw⟩⟩ := id m
    exact RS_65 m (fun P => c_Mo_lostE m0 hO (by omega) r1 r2 (.inl (by rw [← hc.1]; omega)))
theorem Jc_g {h' : Hp} {G L Wd S' : List Int} (hj : Jc h T C S cs wr) (hg : GI h' 28 G L Wd) (hw : wrdG Wd) (x6 : gt h' 6 = some (rW 3000 S')) (f : fr (fun a => gS 28 a ∨ a = 6) h h') : Jc h' T C S' cs wr := by
  obtain ⟨x0, x1, x3, _, _, hs, hb, _⟩ := id hj
  obtain ⟨s1, _, ⟨F, s4⟩, ⟨x, s5⟩, ⟨y, s6⟩, ⟨z, s7⟩⟩ := hs
  obtain ⟨q1, ⟨k0, ⟨O, k1⟩, ⟨A, k3, kA⟩, ⟨R, k5⟩, ⟨K, k7⟩⟩, ⟨Le, q3, q4⟩, ⟨Pc, q5⟩⟩ := s1
  exact Jc_up hj ((f.2.2 _ (by omega)).trans x0) ((f.2.2 _ (by omega)).trans x1) ((f.2.2 _ (by omega)).trans x3) x6 (f.2.2 _ (by omega)) (fun a h1 h2 => f.2.2 _ (by omega)) ⟨⟨FI_eq q1 (fun a _ _ => f.2.2 _ (by omega)), ⟨(f.2.2 _ (by omega)).trans k0, ⟨O, (f.2.2 _ (by omega)).trans k1⟩, ⟨A, (f.2.2 _ (by omega)).trans k3, kA⟩, ⟨R, (f.2.2 _ (by omega)).trans k5⟩, ⟨K, (f.2.2 _ (by omega)).trans k7⟩⟩, ⟨Le, (f.2.2 _ (by omega)).trans q3, q4⟩, ⟨Pc, (f.2.2 _ (by omega)).trans q5⟩⟩, ⟨G, L, Wd, hg, hw⟩, ⟨F, (f.2.2 _ (by omega)).trans s4⟩, ⟨x, (f.2.2 _ (by omega)).trans s5⟩, ⟨y, (f.2.2 _ (by omega)).trans s6⟩, ⟨z, (f.2.2 _ (by omega)).trans s7⟩⟩ (BI_eq hb ⟨f.2.2 _ (by omega), f.2.2 _ (by omega)⟩) (f.2.2 _ (by omega))
theorem Jc_g59 {h' : Hp} {G L Wd X : List Int} (hj : Jc h T C S cs wr) (hg : GI h' 28 G L Wd) (hw : wrdG Wd) (x59 : gt h' 59 = some (rW 240 X)) (f : fr (fun a => gS 28 a ∨ a = 59) h h') : Jc h' T C S cs wr := by
  obtain ⟨x0, x1, x3, x6, _, hs, hb, _⟩ := id hj
  obtain ⟨s1, _, ⟨F, s4⟩, ⟨x, s5⟩, ⟨y, s6⟩, ⟨z, s7⟩⟩ := hs
  obtain ⟨q1, ⟨k0, ⟨O, k1⟩, ⟨A, k3, kA⟩, ⟨R, k5⟩, ⟨K, k7⟩⟩, ⟨Le, q3, q4⟩, ⟨Pc, q5⟩⟩ := s1
  exact Jc_up hj ((f.2.2 _ (by omega)).trans x0) ((f.2.2 _ (by omega)).trans x1) ((f.2.2 _ (by omega)).trans x3) ((f.2.2 _ (by omega)).trans x6) (f.2.2 _ (by omega)) (fun a h1 h2 => f.2.2 _ (by omega)) ⟨⟨FI_eq q1 (fun a _ _ => f.2.2 _ (by omega)), ⟨(f.2.2 _ (by omega)).trans k0, ⟨O, (f.2.2 _ (by omega)).trans k1⟩, ⟨A, (f.2.2 _ (by omega)).trans k3, kA⟩, ⟨R, (f.2.2 _ (by omega)).trans k5⟩, ⟨K, (f.2.2 _ (by omega)).trans k7⟩⟩, ⟨Le, (f.2.2 _ (by omega)).trans q3, q4⟩, ⟨Pc, (f.2.2 _ (by omega)).trans q5⟩⟩, ⟨G, L, Wd, hg, hw⟩, ⟨F, (f.2.2 _ (by omega)).trans s4⟩, ⟨X, x59⟩, ⟨y, (f.2.2 _ (by omega)).trans s6⟩, ⟨z, (f.2.2 _ (by omega)).trans s7⟩⟩ (BI_eq hb ⟨f.2.2 _ (by omega), f.2.2 _ (by omega)⟩) (f.2.2 _ (by omega))
theorem RS_gm {h1 h2 : Hp} {y : Nat} {as : List AV} {v : AV} {T' S' Wd' : List Int} {wr' : Nat} (m : Jm h1 T C S cs wr th) (e2 : ∀ P, Cy scr y as h1 P = P (.inl (some v), h2)) (p1 : gt h2 65 = some (mK (T'.length : Nat) (cs.length : Nat) (S'.length : Nat) wr' 0)) (s2 : MS h2) (w2 : MW h2 Wd') (m67 : ∃ A, gt h2 67 = some (cI 0 A) ∧ A.length = 120 ∧ pre A T') (m71 : ∃ B, gt h2 71 = some (cI 0 B) ∧ B.length = 4200 ∧ pre B S') (f : fr (fun a => gmS a ∨ a = 71 ∨ a = 67 ∨ a = 65) h1 h2) : RS scr h1 y as v T' C S' cs wr' 0 := RS_of e2 (Jm_up m p1 ((f.2.2 _ (by omega)).trans m.2.1) m67 m71 (fun a h1 h2 => f.2.2 _ (by omega)) s2 ⟨Wd', w2⟩) (FM_fr f (fun a h9 => by omega)) (Nat.le_of_eq f.1) (by rw [f.2.1]; exact Nat.le_refl _)
theorem op_35 (hj : J h T C S cs wr th) (hi : 0 ≤ i ∧ i < 1000000) : ST scr 89 i h := by
  obtain ⟨⟨x0, x1, x3, x6, ⟨es, hl, hc⟩, hsi, hbi, ⟨O, x47⟩⟩, jm, ⟨u0, o1⟩, _, st⟩ := id hj
  obtain ⟨⟨hT, hTr⟩, ⟨hC, hCr⟩, ⟨hS, hSr⟩, ⟨hn, hg⟩, hwr⟩ := id st
  obtain ⟨_, ⟨G, L, Wd, gi, gw⟩, _⟩ := id hsi
  obtain ⟨h', G', L', Wd', e, gi', gw', x6', f1⟩ := c_Sh_writeGrowing (scr := scr) gHyp_ok x0 x1 x6 hT hTr gi gw
  have jg := Jc_0 (Jc_g hj.1 gi' gw' x6' f1) T.length
  have gl := glF_len gHyp_ok T (List.replicate 26 0 ++ [1]) Wd gOk_start hTr
  have gb := glF_bit T (List.replicate 26 0 ++ [1]) Wd
  refine ST_A (th' := 0) hj (CS_of e jg (FC_ut _ (FC_fr f1 (fun a h9 => by omega)) (by omega)) (by rw [ln_ut, f1.1]) (by show h'.2 ≤ h.2 + 1; rw [f1.2.1]; exact Nat.le_succ _)) (fun k1 m l => ?_) (fun g m e1 e2 P => lw_35 hi g m x0 e1 e2) (⟨st.1, st.2.1, ⟨by omega, gb⟩, st.2.2.2.1, hT⟩)
  obtain ⟨m0, m66, ⟨A, m67, lA, pA⟩, ⟨B, m71, lB, pB⟩, hm, hms, ⟨Wm, hw⟩⟩ := id m
  obtain ⟨h2, B', Wm', e2, p1, s2, w2, n71, lB', pB', f2⟩ := c_Mo_writeGrowing (scr := scr) gHypM_ok m0 hT hTr hms hw m67 lA pA m71 lB
  rw [← gl_gm T _ Wd Wm gOk_start gw.2 hw.2.1 hTr] at e2 p1 pB'
  exact RS_gm m e2 p1 s2 w2 ⟨A, (f2.2.2 _ (by omega)).trans m67, lA, pA⟩ ⟨B', n71, lB', pB'⟩ (fr_mono f2 (fun a h9 => by omega))
theorem op_36 (hj : J h T C S cs wr th) (hi : 0 ≤ i ∧ i < 1000000) : ST scr 90 i h := by
  obtain ⟨⟨x0, x1, x3, x6, ⟨es, hl, hc⟩, hsi, hbi, ⟨O, x47⟩⟩, jm, ⟨u0, o1⟩, _, st⟩ := id hj
  obtain ⟨⟨hT, hTr⟩, ⟨hC, hCr⟩, ⟨hS, hSr⟩, ⟨hn, hg⟩, hwr⟩ := id st
  obtain ⟨_, ⟨G, L, Wd, gi, gw⟩, _, ⟨sp, x59⟩, _⟩ := id hsi
  obtain ⟨h', G', L', Wd', e, gi', gw', x59', f1⟩ := c_Sh_readGrowing (scr := scr) gHyp_ok x0 x1 x6 x59 hwr hSr (by omega) gi gw
  have jg := Jc_1 (Jc_g59 hj.1 gi' gw' x59' f1) (ggF S wr 0 (List.replicate 26 0 ++ [1]) Wd)
  refine ST_A (th' := 0) hj (CS_of e jg (FC_ut _ (FC_fr f1 (fun a h9 => by omega)) (by omega)) (by rw [ln_ut, f1.1]) (by show h'.2 ≤ h.2 + 1; rw [f1.2.1]; exact Nat.le_succ _)) (fun k1 m l => ?_) (fun g m e1 e2 P => lw_36 hi g m x0 e1 e2) (⟨⟨by have := ggF_len S wr 0 (List.replicate 26 0 ++ [1]) Wd; omega, ggF_rng S wr 0 _ Wd hSr⟩, st.2⟩)
  obtain ⟨m0, m66, ⟨A, m67, lA, pA⟩, ⟨B, m71, lB, pB⟩, hm, hms, ⟨Wm, hw⟩⟩ := id m
  obtain ⟨h2, A', Wm', e2, p1, s2, w2, n67, lA', pA', f2⟩ := c_Mo_readGrowing (scr := scr) gHypM_ok m0 hwr hms hw m67 lA m71 lB pB hSr
  rw [← gg_gu hSr wr 0 _ Wd Wm gOk_start gw.2 hw.2.1 (Int.le_refl _) (by omega)] at e2 p1 pA'
  exact RS_gm m e2 p1 s2 w2 ⟨A', n67, lA', pA'⟩ ⟨B, (f2.2.2 _ (by omega)).trans m71, lB, pB⟩ (fr_mono f2 (fun a h9 => by omega))
end
