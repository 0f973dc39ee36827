/-! THE LAW op by op: costs and cuts -/
section
variable {scr : List Int} {h : Hp} {T C S : List Int} {cs : List cdT} {wr : Nat} {th i : Int}
theorem CS_q {h' : Hp} {y : Nat} {as : List AV} {o : Option AV ⊕ Nat} (e : ∀ P, Cy scr y as h P = P (o, h')) (hj : Jc h T C S cs wr) (hq : QI h') (f : fr qS h h') : CS scr h y as o T C S cs wr := CS_of e (Jc_q hj hq f) (FC_fr f (fun a h9 => by omega)) f.1 (by rw [f.2.1]; exact Nat.le_succ _)
theorem CS_qb {h' : Hp} {y : Nat} {as : List AV} {o : Option AV ⊕ Nat} (e : ∀ P, Cy scr y as h P = P (o, h')) (hj : Jc h T C S cs wr) (hq : QI h') (hb : BI h') (f : fr (fun a => qS a ∨ a = 55 ∨ a = 57) h h') : CS scr h y as o T C S cs wr := CS_of e (Jc_qb hj hq hb f) (FC_fr f (fun a h9 => by omega)) f.1 (by rw [f.2.1]; exact Nat.le_succ _)
theorem RS_s {h1 h2 : Hp} {y : Nat} {as : List AV} {v : AV} {th' : Int} {Q : Nat → Prop} (m : Jm h1 T C S cs wr th) (e2 : ∀ P, Cy scr y as h1 P = P (.inl (some v), h2)) (p1 : gt h2 65 = some (mK (T.length : Nat) (cs.length : Nat) (S.length : Nat) wr th')) (s2 : MS h2) (f : fr Q h1 h2) (hQ : ∀ a, Q a → a = 65 ∨ (72 ≤ a ∧ a ≤ 75) ∨ (77 ≤ a ∧ a ≤ 191)) : RS scr h1 y as v T C S cs wr th' := by
  obtain ⟨m0, m66, ⟨A, m67, lA, pA⟩, ⟨B, m71, lB, pB⟩, hm, hms, ⟨Wd, hw⟩⟩ := id m
  exact RS_of e2 (Jm_s m p1 s2 ⟨Wd, (f.2.2 _ (fun h9 => by have := hQ _ h9; omega)).trans hw.1, hw.2⟩ (fun a _ h8 => f.2.2 a (fun h9 => by have := hQ _ h9; omega))) (FM_fr f (fun a h9 => by have := hQ _ h9; omega)) (Nat.le_of_eq f.1) (by rw [f.2.1]; exact Nat.le_refl _)
theorem RS_sB {h1 h2 : Hp} {y N k : Nat} {as : List AV} {v : AV} {th' : Int} {Q : Nat → Prop} (m : Jm h1 T C S cs wr th) (e2 : ∀ P, Cy scr y as h1 P = P (.inl (some v), h2)) (p1 : gt h2 65 = some (mK (T.length : Nat) (cs.length : Nat) (S.length : Nat) wr th')) (s2 : MS h2) (f : frB Q h1 h2) (hQ : ∀ a, Q a → a = 65 ∨ (72 ≤ a ∧ a ≤ 75) ∨ (77 ≤ a ∧ a ≤ 191)) (hl : ln h2 ≤ ln h1 + k) (hk : k ≤ 6 ∧ k * N ≤ 5000) (hn : nw N h1 h2) : RS scr h1 y as v T C S cs wr th' := by
  obtain ⟨m0, m66, ⟨A, m67, lA, pA⟩, ⟨B, m71, lB, pB⟩, hm, hms, ⟨Wd, hw⟩⟩ := id m
  exact RS_new e2 (Jm_s m p1 s2 ⟨Wd, (f.2.2 _ (gt_lt hw.1) (fun h9 => by have := hQ _ h9; omega)).trans hw.1, hw.2⟩ (fun a h7 h8 => f.2.2 a h7 (fun h9 => by have := hQ _ h9; omega))) (FM_frB f (fun a h9 => by have := hQ _ h9; omega)) hl hk hn (by rw [f.2.1]; exact Nat.le_refl _)
theorem bo_eq (hC : C.length = 26) (hnn : ∀ x ∈ C, 0 ≤ x) {b : Nat} (hb : 1 ≤ b ∧ b ≤ 25) (hr : abF C ≤ 2 ^ b) : csF C (msL C b) 26 0 0 - jwF C = boM C b := by
  unfold boM
  by_cases h0 : abF C = 0
  · rw [if_pos h0, cs_zero h0 hnn, jw_zero h0]
    rfl
  · have ha := abF_rngC hC
    rw [if_neg h0, ← lo_jw hnn, (ms_gd hC hnn (by omega) hb hr).2.2.1]
theorem or_eq (hC : C.length = 26) (hnn : ∀ x ∈ C, 0 ≤ x) : gjF C - jwF C = orM C := by
  unfold orM
  by_cases h0 : abF C = 0
  · rw [if_pos h0, gj_all hC hnn, cs_zero h0 hnn, jw_zero h0]
    rfl
  · rw [if_neg h0, ← lo_jw hnn, go_inS hC hnn]
theorem op_25 (hj : J h T C S cs wr th) (hi : 0 ≤ i ∧ i < 1000000) : ST scr 65 i h := by
  obtain ⟨⟨x0, x1, x3, x6, ⟨es, hl, hc⟩, hsi, hbi, ⟨O, x47⟩⟩, jm, ⟨u0, o1⟩, _, st⟩ := id hj
  obtain ⟨⟨hT, hTr⟩, ⟨hC, hCr⟩, ⟨hS, hSr⟩, ⟨hn, hg⟩, hwr⟩ := id st
  have hnn : ∀ x ∈ C, 0 ≤ x := fun x hx => (hCr x hx).1
  have hsum : C.sum < 80000000 := by have := sumC hCr; omega
  have hrC := rngC hCr
  have ab := abF_cntS hC hnn
  have hln := gt_lt o1
  have car := abF_rngC hC
  obtain ⟨h', e, q1, f1⟩ := c_Sh_leastBits (scr := scr) x0 x3 hsi.1 hC hnn hsum
  rw [← lo_jw hnn] at e
  refine ST_A (th' := 0) hj (CS_q e hj.1 q1 f1) (fun k1 m l => ?_) (fun g m e1 e2 P => lw_25 hi g m x0 e1 e2) (st)
  obtain ⟨m0, m66, ⟨A, m67, lA, pA⟩, ⟨B, m71, lB, pB⟩, hm, hms, ⟨Wd, hw⟩⟩ := id m
  obtain ⟨h2, e2, p1, s2, f2⟩ := c_Mo_leastBits (scr := scr) m0 hms m66 hC hnn hsum
  exact RS_s m e2 p1 s2 f2 (fun a h9 => by omega)
theorem op_26 {a1 : Int} (hj : J h T C S cs wr th) (hi : 0 ≤ i ∧ i < 1000000) (s1 : scr[(i + 1).toNat]? = some a1) (r1 : -2147483648 ≤ a1 ∧ a1 < 2147483648) : ST scr 66 i h := by
  obtain ⟨⟨x0, x1, x3, x6, ⟨es, hl, hc⟩, hsi, hbi, ⟨O, x47⟩⟩, jm, ⟨u0, o1⟩, _, st⟩ := id hj
  obtain ⟨⟨hT, hTr⟩, ⟨hC, hCr⟩, ⟨hS, hSr⟩, ⟨hn, hg⟩, hwr⟩ := id st
  have hnn : ∀ x ∈ C, 0 ≤ x := fun x hx => (hCr x hx).1
  have hsum : C.sum < 80000000 := by have := sumC hCr; omega
  have hrC := rngC hCr
  have ab := abF_cntS hC hnn
  have hln := gt_lt o1
  have car := abF_rngC hC
  obtain ⟨h', e, q1, f1⟩ := c_Sh_boundCost (scr := scr) x0 x3 hsi.1 hC hnn hsum r1
  by_cases b1 : 1 ≤ a1 ∧ a1 ≤ 25
  · by_cases b3 : cntS C ≤ 2 ^ a1.toNat
    · simp only [if_pos b1, if_pos b3] at e
      obtain ⟨bn, rfl⟩ := Int.eq_ofNat_of_zero_le (show 0 ≤ a1 by omega)
      rw [Int.toNat_natCast] at b3 e
      have b3' : abF C ≤ 2 ^ bn := by rw [ab]; exact b3
      rw [bo_eq hC hnn (by omega) b3'] at e
      refine ST_ok hj (CS_q e hj.1 q1 f1) (fun e g => w_boundCost_o x0 e g) (fun k1 m l => ?_) (fun g m e1 e2 o P => lw_26 s1 hi g m e1 e2 o (by omega) (fun _ => rfl)) (st)
      obtain ⟨m0, m66, ⟨A, m67, lA, pA⟩, ⟨B, m71, lB, pB⟩, hm, hms, ⟨Wd, hw⟩⟩ := id m
      obtain ⟨h2, e2, p1, s2, f2⟩ := c_Mo_boundCost (scr := scr) (bn := bn) m0 hms m66 hC hnn hsum (by omega) b3'
      exact RS_s m e2 p1 s2 f2 (fun a h9 => by omega)
    · simp only [if_pos b1, if_neg b3] at e
      refine ST_ex (rv := vI 0) hj (CS_x e hj.1) (fun e => w_boundCost_12 x0 e) (fun k1 m l => ?_) (fun g m e1 e2 o P => lw_26 s1 hi g m e1 e2 o (by omega) (fun h9 => absurd h9 (by omega)))
      obtain ⟨m0, m66, ⟨A, m67, lA, pA⟩, ⟨B, m71, lB, pB⟩, hm, hms, ⟨Wd, hw⟩⟩ := id m
      have e2 := fun P => c_Mo_boundCostE (scr := scr) (P := P) m0 m66 hC hrC r1 (fun h9 => b3 (by rw [← ab]; exact h9.2))
      simp only [if_pos b1] at e2
      exact RS_65 m e2
  · simp only [if_neg b1] at e
    refine ST_ex (rv := vI 0) hj (CS_x e hj.1) (fun e => w_boundCost_8 x0 e) (fun k1 m l => ?_) (fun g m e1 e2 o P => lw_26 s1 hi g m e1 e2 o (by omega) (fun h9 => absurd h9 (by omega)))
    obtain ⟨m0, m66, ⟨A, m67, lA, pA⟩, ⟨B, m71, lB, pB⟩, hm, hms, ⟨Wd, hw⟩⟩ := id m
    have e2 := fun P => c_Mo_boundCostE (scr := scr) (P := P) m0 m66 hC hrC r1 (fun h9 => b1 h9.1)
    simp only [if_neg b1] at e2
    exact RS_65 m e2
theorem op_27 (hj : J h T C S cs wr th) (hi : 0 ≤ i ∧ i < 1000000) : ST scr 69 i h := by
  obtain ⟨⟨x0, x1, x3, x6, ⟨es, hl, hc⟩, hsi, hbi, ⟨O, x47⟩⟩, jm, ⟨u0, o1⟩, _, st⟩ := id hj
  obtain ⟨⟨hT, hTr⟩, ⟨hC, hCr⟩, ⟨hS, hSr⟩, ⟨hn, hg⟩, hwr⟩ := id st
  have hnn : ∀ x ∈ C, 0 ≤ x := fun x hx => (hCr x hx).1
  have hsum : C.sum < 80000000 := by have := sumC hCr; omega
  have hrC := rngC hCr
  have ab := abF_cntS hC hnn
  have hln := gt_lt o1
  have car := abF_rngC hC
  obtain ⟨h', e, q1, f1⟩ := c_Sh_orderCost (scr := scr) x0 x3 hsi.1 hC hnn hsum
  rw [or_eq hC hnn] at e
  refine ST_A (th' := 0) hj (CS_q e hj.1 q1 f1) (fun k1 m l => ?_) (fun g m e1 e2 P => lw_27 hi g m x0 e1 e2) (st)
  obtain ⟨m0, m66, ⟨A, m67, lA, pA⟩, ⟨B, m71, lB, pB⟩, hm, hms, ⟨Wd, hw⟩⟩ := id m
  obtain ⟨h2, e2, p1, s2, f2, l2, n2⟩ := c_Mo_orderCost (scr := scr) m0 hms m66 hC hnn hsum (by omega)
  exact RS_sB m e2 p1 s2 f2 (fun a h9 => by omega) l2 (by decide) n2
theorem op_28 {a1 : Int} (hj : J h T C S cs wr th) (hi : 0 ≤ i ∧ i < 1000000) (s1 : scr[(i + 1).toNat]? = some a1) (r1 : -2147483648 ≤ a1 ∧ a1 < 2147483648) : ST scr 70 i h := by
  obtain ⟨⟨x0, x1, x3, x6, ⟨es, hl, hc⟩, hsi, hbi, ⟨O, x47⟩⟩, jm, ⟨u0, o1⟩, _, st⟩ := id hj
  obtain ⟨⟨hT, hTr⟩, ⟨hC, hCr⟩, ⟨hS, hSr⟩, ⟨hn, hg⟩, hwr⟩ := id st
  obtain ⟨h', e, q1, b1, f1⟩ := c_Sh_blockBits (scr := scr) x0 x1 hT hTr hsi.1 hbi r1
  have hrT : rng T := fun x hx => by have := hTr x hx; omega
  by_cases h1 : 1 ≤ a1 ∧ a1 ≤ 4
  · obtain ⟨s, rfl⟩ := Int.eq_ofNat_of_zero_le (show 0 ≤ a1 by omega)
    simp only [if_pos h1, Int.toNat_natCast] at e
    rw [block_ok hTr hT (by omega)] at e
    refine ST_ok hj (CS_qb e hj.1 q1 b1 f1) (fun e g => w_blockBits_o x0 e g) (fun k1 m l => ?_) (fun g m e1 e2 o P => lw_28 s1 hi g m e1 e2 o (by omega) (fun _ => rfl)) (st)
    obtain ⟨m0, m66, ⟨A, m67, lA, pA⟩, ⟨B, m71, lB, pB⟩, hm, hms, ⟨Wd, hw⟩⟩ := id m
    obtain ⟨h2, e2, p1, s2, f2, l2, n2⟩ := c_Mo_blockBits (scr := scr) (s := s) m0 hms (by omega) m67 lA pA hrT (by omega)
    exact RS_sB m e2 p1 s2 f2 (fun a h9 => by omega) l2 (by decide) n2
  · simp only [if_neg h1] at e
    refine ST_ex (rv := vI 0) hj (CS_x e hj.1) (fun e => w_blockBits_8 x0 e) (fun k1 m l => ?_) (fun g m e1 e2 o P => lw_28 s1 hi g m e1 e2 o (by omega) (fun h9 => absurd h9 (by omega)))
    obtain ⟨m0, m66, ⟨A, m67, lA, pA⟩, ⟨B, m71, lB, pB⟩, hm, hms, ⟨Wd, hw⟩⟩ := id m
    exact RS_65 m (fun P => c_Mo_blockBitsE m0 r1 (by omega))
theorem op_29 {a1 : Int} (hj : J h T C S cs wr th) (hi : 0 ≤ i ∧ i < 1000000) (s1 : scr[(i + 1).toNat]? = some a1) (r1 : -2147483648 ≤ a1 ∧ a1 < 2147483648) : ST scr 73 i h := by
  obtain ⟨⟨x0, x1, x3, x6, ⟨es, hl, hc⟩, hsi, hbi, ⟨O, x47⟩⟩, jm, ⟨u0, o1⟩, _, st⟩ := id hj
  obtain ⟨⟨hT, hTr⟩, ⟨hC, hCr⟩, ⟨hS, hSr⟩, ⟨hn, hg⟩, hwr⟩ := id st
  have e := fun P => c_Sh_fewestFor (scr := scr) (h := h) (P := P) r1
  by_cases h1 : 1 ≤ a1 ∧ a1 ≤ 25
  · simp only [if_pos h1] at e
    refine ST_ok hj (CS_same e hj.1) (fun e g => w_fewestFor_o x0 e g) (fun k1 m l => ?_) (fun g m e1 e2 o P => lw_29 s1 hi g m e1 e2 o (by omega) (fun _ => rfl)) (st)
    obtain ⟨m0, m66, ⟨A, m67, lA, pA⟩, ⟨B, m71, lB, pB⟩, hm, hms, ⟨Wd, hw⟩⟩ := id m
    have e2 := fun P => c_Mo_fewestFor (scr := scr) (P := P) m0 r1
    simp only [if_pos h1] at e2
    exact RS_65 m e2
  · simp only [if_neg h1] at e
    refine ST_ex (rv := vI 0) hj (CS_x e hj.1) (fun e => w_fewestFor_8 x0 e) (fun k1 m l => ?_) (fun g m e1 e2 o P => lw_29 s1 hi g m e1 e2 o (by omega) (fun h9 => absurd h9 (by omega)))
    obtain ⟨m0, m66, ⟨A, m67, lA, pA⟩, ⟨B, m71, lB, pB⟩, hm, hms, ⟨Wd, hw⟩⟩ := id m
    have e2 := fun P => c_Mo_fewestFor (scr := scr) (P := P) m0 r1
    simp only [if_neg h1] at e2
    exact RS_65 m e2
theorem op_30 {a1 a2 : Int} (hj : J h T C S cs wr th) (hi : 0 ≤ i ∧ i < 1000000) (s1 : scr[(i + 1).toNat]? = some a1) (s2 : scr[(i + 2).toNat]? = some a2) (r1 : -2147483648 ≤ a1 ∧ a1 < 2147483648) (r2 : -2147483648 ≤ a2 ∧ a2 < 2147483648) : ST scr 76 i h := by
  obtain ⟨⟨x0, x1, x3, x6, ⟨es, hl, hc⟩, hsi, hbi, ⟨O, x47⟩⟩, jm, ⟨u0, o1⟩, _, st⟩ := id hj
  obtain ⟨⟨hT, hTr⟩, ⟨hC, hCr⟩, ⟨hS, hSr⟩, ⟨hn, hg⟩, hwr⟩ := id st
  have e := fun P => c_Sh_countFor (scr := scr) (h := h) (P := P) r1 r2
  by_cases h1 : 1 ≤ a1 ∧ a1 ≤ 25
  · by_cases h2 : 0 ≤ a2 ∧ a2 ≤ a1
    · simp only [if_pos h1, if_pos h2] at e
      refine ST_ok hj (CS_same e hj.1) (fun e g => w_countFor_o x0 e g) (fun k1 m l => ?_) (fun g m e1 e2 o P => lw_30 s1 s2 hi g m e1 e2 o (by omega) (fun _ => rfl)) (st)
      obtain ⟨m0, m66, ⟨A, m67, lA, pA⟩, ⟨B, m71, lB, pB⟩, hm, hms, ⟨Wd, hw⟩⟩ := id m
      have e2 := fun P => c_Mo_countFor (scr := scr) (P := P) m0 r1 r2
      simp only [if_pos h1, if_pos h2] at e2
      exact RS_65 m e2
    · simp only [if_pos h1, if_neg h2] at e
      refine ST_ex (rv := vI 0) hj (CS_x e hj.1) (fun e => w_countFor_10 x0 e) (fun k1 m l => ?_) (fun g m e1 e2 o P => lw_30 s1 s2 hi g m e1 e2 o (by omega) (fun h9 => absurd h9 (by omega)))
      obtain ⟨m0, m66, ⟨A, m67, lA, pA⟩, ⟨B, m71, lB, pB⟩, hm, hms, ⟨Wd, hw⟩⟩ := id m
      have e2 := fun P => c_Mo_countFor (scr := scr) (P := P) m0 r1 r2
      simp only [if_pos h1, if_neg h2] at e2
      exact RS_65 m e2
  · simp only [if_neg h1] at e
    refine ST_ex (rv := vI 0) hj (CS_x e hj.1) (fun e => w_countFor_8 x0 e) (fun k1 m l => ?_) (fun g m e1 e2 o P => lw_30 s1 s2 hi g m e1 e2 o (by omega) (fun h9 => absurd h9 (by omega)))
    obtain ⟨m0, m66, ⟨A, m67, lA, pA⟩, ⟨B, m71, lB, pB⟩, hm, hms, ⟨Wd, hw⟩⟩ := id m
    have e2 := fun P => c_Mo_countFor (scr := scr) (P := P) m0 r1 r2
    simp only [if_neg h1] at e2
    exact RS_65 m e2
theorem op_31 {a1 : Int} (hj : J h T C S cs wr th) (hi : 0 ≤ i ∧ i < 1000000) (s1 : scr[(i + 1).toNat]? = some a1) (r1 : -2147483648 ≤ a1 ∧ a1 < 2147483648) : ST scr 79 i h := by
  obtain ⟨⟨x0, x1, x3, x6, ⟨es, hl, hc⟩, hsi, hbi, ⟨O, x47⟩⟩, jm, ⟨u0, o1⟩, _, st⟩ := id hj
  obtain ⟨⟨hT, hTr⟩, ⟨hC, hCr⟩, ⟨hS, hSr⟩, ⟨hn, hg⟩, hwr⟩ := id st
  obtain ⟨h', e, q1, f1⟩ := c_Sh_saved (scr := scr) x0 x1 hT hTr hsi.1 r1
  by_cases h1 : 0 ≤ a1 ∧ a1 ≤ (T.length : Int)
  · obtain ⟨p, rfl⟩ := Int.eq_ofNat_of_zero_le h1.1
    simp only [if_pos h1, Int.toNat_natCast] at e
    rw [sv_pb hT hTr (by omega)] at e
    refine ST_ok hj (CS_q e hj.1 q1 f1) (fun e g => w_saved_o x0 e g) (fun k1 m l => ?_) (fun g m e1 e2 o P => lw_31 s1 hi g m e1 e2 o (by omega) (fun _ => rfl)) (st)
    obtain ⟨m0, m66, ⟨A, m67, lA, pA⟩, ⟨B, m71, lB, pB⟩, hm, hms, ⟨Wd, hw⟩⟩ := id m
    obtain ⟨h2, e2, p1, s2, f2⟩ := c_Mo_saved (scr := scr) (p := p) m0 hms m67 lA pA hTr (by omega)
    exact RS_s m e2 p1 s2 f2 (fun a h9 => by omega)
  · simp only [if_neg h1] at e
    refine ST_ex (rv := vI 0) hj (CS_x e hj.1) (fun e => w_saved_10 x0 e) (fun k1 m l => ?_) (fun g m e1 e2 o P => lw_31 s1 hi g m e1 e2 o (by omega) (fun h9 => absurd h9 (by omega)))
    obtain ⟨m0, m66, ⟨A, m67, lA, pA⟩, ⟨B, m71, lB, pB⟩, hm, hms, ⟨Wd, hw⟩⟩ := id m
    exact RS_65 m (fun P => c_Mo_savedE m0 hT r1 (by omega))
theorem op_32 (hj : J h T C S cs wr th) (hi : 0 ≤ i ∧ i < 1000000) : ST scr 82 i h := by
  obtain ⟨⟨x0, x1, x3, x6, ⟨es, hl, hc⟩, hsi, hbi, ⟨O, x47⟩⟩, jm, ⟨u0, o1⟩, _, st⟩ := id hj
  obtain ⟨⟨hT, hTr⟩, ⟨hC, hCr⟩, ⟨hS, hSr⟩, ⟨hn, hg⟩, hwr⟩ := id st
  obtain ⟨h', e, q1, f1⟩ := c_Sh_bestCut (scr := scr) x0 x1 hT hTr (cb_ok hT hTr) hsi.1
  rw [best_ok hT hTr] at e
  refine ST_A (th' := 0) hj (CS_q e hj.1 q1 f1) (fun k1 m l => ?_) (fun g m e1 e2 P => lw_32 hi g m x0 e1 e2) (st)
  obtain ⟨m0, m66, ⟨A, m67, lA, pA⟩, ⟨B, m71, lB, pB⟩, hm, hms, ⟨Wd, hw⟩⟩ := id m
  obtain ⟨h2, e2, p1, s2, f2⟩ := c_Mo_bestCut (scr := scr) m0 hms m67 lA pA hTr
  exact RS_s m e2 p1 s2 f2 (fun a h9 => by omega)
end
