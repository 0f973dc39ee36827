/-! THE LAW op by op: codes made -/
section
variable {scr : List Int} {h : Hp} {T C S : List Int} {cs : List cdT} {wr : Nat} {th i : Int}
theorem RS_mk {h1 h2 : Hp} {y : Nat} {as : List AV} {v : AV} {q : cdT} (m : Jm h1 T C S cs wr th) (e2 : ∀ P, Cy scr y as h1 P = P (.inl (some v), h2)) (k : mkM h1 h2 (T.length : Nat) (S.length : Nat) wr cs q) : RS scr h1 y as v T C S (cs ++ [q]) wr 0 := by
  obtain ⟨m0, m66, ⟨A, m67, lA, pA⟩, ⟨B, m71, lB, pB⟩, hm, hms, ⟨Wd, hw⟩⟩ := id m
  obtain ⟨k1, k2, k3, k4, k5, k6, k7⟩ := k
  have el : (cs ++ [q]).length = cs.length + 1 := by simp
  refine RS_new (N := 60) (k := 6) e2 ⟨by rw [el]; exact k1, (k6.2.2 _ (gt_lt m66) (by omega)).trans m66, ⟨A, (k6.2.2 _ (gt_lt m67) (by omega)).trans m67, lA, pA⟩, ⟨B, (k6.2.2 _ (gt_lt m71) (by omega)).trans m71, lB, pB⟩, k2, k3, ⟨Wd, (k6.2.2 _ (gt_lt hw.1) (by omega)).trans hw.1, hw.2⟩⟩ (FM_frB k6 (fun a h9 => by omega)) k5 (by decide) k7 (by rw [k6.2.1]; exact Nat.le_refl _)
theorem st_app {q : cdT} (st : stO T C S cs wr) (hn : cs.length < 12) (hq : gdC q) : stO T C S (cs ++ [q]) wr := ⟨st.1, st.2.1, st.2.2.1, ⟨by simp; omega, fun x hx => by
  rcases List.mem_append.mp hx with hx | hx
  · exact st.2.2.2.1.2 x hx
  · simp at hx
    exact hx ▸ hq⟩, st.2.2.2.2⟩
theorem op_9 (hj : J h T C S cs wr th) (hi : 0 ≤ i ∧ i < 1000000) : ST scr 21 i h := by
  obtain ⟨⟨x0, x1, x3, x6, ⟨es, hl, hc⟩, hsi, hbi, ⟨O, x47⟩⟩, jm, ⟨u0, o1⟩, _, st⟩ := id hj
  obtain ⟨⟨hT, hTr⟩, ⟨hC, hCr⟩, ⟨hS, hSr⟩, ⟨hn, hg⟩, hwr⟩ := id st
  have hn' : es.length ≤ 12 := by rw [hc.1]; exact hn
  have hO := csO_of ⟨hn, hg⟩
  have hnn : ∀ x ∈ C, 0 ≤ x := fun x hx => (hCr x hx).1
  have hsum : C.sum < 80000000 := by have := sumC hCr; omega
  have hrC := rngC hCr
  have ab := abF_cntS hC hnn
  have hln := gt_lt o1
  have car := abF_rngC hC
  by_cases h0 : cntS C = 0
  · have e := fun P => c_Sh_least0 (scr := scr) (P := P) x0 x3 hC hrC h0
    refine ST_ex (rv := vI 0) hj (CS_x e hj.1) (fun e => w_least_11 x0 e) (fun k1 m l => ?_) (fun g m e1 e2 o P => lw_9 hi g m e1 e2 o (by omega) (fun h9 => absurd h9 (by omega)))
    obtain ⟨m0, m66, ⟨A, m67, lA, pA⟩, ⟨B, m71, lB, pB⟩, hm, hms, ⟨Wd, hw⟩⟩ := id m
    exact RS_65 m (fun P => c_Mo_least0 m0 m66 hC hrC (by rw [ab]; exact h0))
  · by_cases h2 : es.length < 12
    · have hcl : cs.length < 12 := by rw [← hc.1]; exact h2
      obtain ⟨g1, g2, g3, g4⟩ := hl_gd hC hnn (by omega)
      obtain ⟨h', e, mk⟩ := c_Sh_least (scr := scr) x0 x3 hC hnn hsum hl hsi.1 (by omega) h0 h2 g2
      obtain ⟨j1, j2, j3, j4, j5⟩ := Jc_mk hj.1 hl hc mk g1.1
      rw [hc.1] at e
      refine ST_ok hj (⟨h', e, j1, j2, j3, j4, j5⟩) (fun e g => w_least_o x0 e g) (fun k1 m l => ?_) (fun g m e1 e2 o P => lw_9 hi g m e1 e2 o (by omega) (fun _ => rfl)) (st_app st hcl g1)
      obtain ⟨m0, m66, ⟨A, m67, lA, pA⟩, ⟨B, m71, lB, pB⟩, hm, hms, ⟨Wd, hw⟩⟩ := id m
      obtain ⟨h2', e2, mk2⟩ := c_Mo_least (scr := scr) m0 m66 hm hms (by omega) hC hnn hsum (by rw [ab]; exact h0) hcl (by rw [g3]; exact g2)
      rw [g3, g4] at mk2
      exact RS_mk m e2 mk2
    · have e := fun P => c_Sh_least1 (scr := scr) (P := P) x0 x3 hC hrC hl (by omega) h0 h2
      refine ST_ex (rv := vI 0) hj (CS_x e hj.1) (fun e => w_least_9 x0 e) (fun k1 m l => ?_) (fun g m e1 e2 o P => lw_9 hi g m e1 e2 o (by omega) (fun h9 => absurd h9 (by omega)))
      obtain ⟨m0, m66, ⟨A, m67, lA, pA⟩, ⟨B, m71, lB, pB⟩, hm, hms, ⟨Wd, hw⟩⟩ := id m
      exact RS_65 m (fun P => c_Mo_least1 m0 m66 hC hrC (by rw [ab]; exact h0) (by have := hc.1; omega))
theorem op_12 (hj : J h T C S cs wr th) (hi : 0 ≤ i ∧ i < 1000000) : ST scr 30 i h := by
  obtain ⟨⟨x0, x1, x3, x6, ⟨es, hl, hc⟩, hsi, hbi, ⟨O, x47⟩⟩, jm, ⟨u0, o1⟩, _, st⟩ := id hj
  obtain ⟨⟨hT, hTr⟩, ⟨hC, hCr⟩, ⟨hS, hSr⟩, ⟨hn, hg⟩, hwr⟩ := id st
  have hn' : es.length ≤ 12 := by rw [hc.1]; exact hn
  have hO := csO_of ⟨hn, hg⟩
  have hnn : ∀ x ∈ C, 0 ≤ x := fun x hx => (hCr x hx).1
  have hsum : C.sum < 80000000 := by have := sumC hCr; omega
  have hrC := rngC hCr
  have ab := abF_cntS hC hnn
  have hln := gt_lt o1
  have car := abF_rngC hC
  by_cases h0 : cntS C = 0
  · have e := fun P => c_Sh_triple0 (scr := scr) (P := P) x0 x3 hC hrC h0
    refine ST_ex (rv := vI 0) hj (CS_x e hj.1) (fun e => w_triple_11 x0 e) (fun k1 m l => ?_) (fun g m e1 e2 o P => lw_12 hi g m e1 e2 o (by omega) (fun h9 => absurd h9 (by omega)))
    obtain ⟨m0, m66, ⟨A, m67, lA, pA⟩, ⟨B, m71, lB, pB⟩, hm, hms, ⟨Wd, hw⟩⟩ := id m
    exact RS_65 m (fun P => c_Mo_triple0 m0 m66 hC hrC (by rw [ab]; exact h0))
  · by_cases h2 : es.length < 12
    · have hcl : cs.length < 12 := by rw [← hc.1]; exact h2
      obtain ⟨g1, g2, g3, g4⟩ := h3_gd hC hnn (by omega)
      obtain ⟨h', e, mk⟩ := c_Sh_triple (scr := scr) x0 x3 hC hnn hsum hl hsi.1 (by omega) h0 h2 g2
      obtain ⟨j1, j2, j3, j4, j5⟩ := Jc_mk hj.1 hl hc mk g1.1
      rw [hc.1] at e
      refine ST_ok hj (⟨h', e, j1, j2, j3, j4, j5⟩) (fun e g => w_triple_o x0 e g) (fun k1 m l => ?_) (fun g m e1 e2 o P => lw_12 hi g m e1 e2 o (by omega) (fun _ => rfl)) (st_app st hcl g1)
      obtain ⟨m0, m66, ⟨A, m67, lA, pA⟩, ⟨B, m71, lB, pB⟩, hm, hms, ⟨Wd, hw⟩⟩ := id m
      obtain ⟨h2', e2, mk2⟩ := c_Mo_triple (scr := scr) m0 m66 hm hms (by omega) hC hnn hsum (by rw [ab]; exact h0) hcl (by rw [g3]; exact g2)
      rw [g3, g4] at mk2
      exact RS_mk m e2 mk2
    · have e := fun P => c_Sh_triple1 (scr := scr) (P := P) x0 x3 hC hrC hl (by omega) h0 h2
      refine ST_ex (rv := vI 0) hj (CS_x e hj.1) (fun e => w_triple_9 x0 e) (fun k1 m l => ?_) (fun g m e1 e2 o P => lw_12 hi g m e1 e2 o (by omega) (fun h9 => absurd h9 (by omega)))
      obtain ⟨m0, m66, ⟨A, m67, lA, pA⟩, ⟨B, m71, lB, pB⟩, hm, hms, ⟨Wd, hw⟩⟩ := id m
      exact RS_65 m (fun P => c_Mo_triple1 m0 m66 hC hrC (by rw [ab]; exact h0) (by have := hc.1; omega))
theorem op_11 (hj : J h T C S cs wr th) (hi : 0 ≤ i ∧ i < 1000000) : ST scr 27 i h := by
  obtain ⟨⟨x0, x1, x3, x6, ⟨es, hl, hc⟩, hsi, hbi, ⟨O, x47⟩⟩, jm, ⟨u0, o1⟩, _, st⟩ := id hj
  obtain ⟨⟨hT, hTr⟩, ⟨hC, hCr⟩, ⟨hS, hSr⟩, ⟨hn, hg⟩, hwr⟩ := id st
  have hn' : es.length ≤ 12 := by rw [hc.1]; exact hn
  have hO := csO_of ⟨hn, hg⟩
  have hnn : ∀ x ∈ C, 0 ≤ x := fun x hx => (hCr x hx).1
  have hsum : C.sum < 80000000 := by have := sumC hCr; omega
  have hrC := rngC hCr
  have ab := abF_cntS hC hnn
  have hln := gt_lt o1
  have car := abF_rngC hC
  by_cases h0 : cntS C = 0
  · have e := fun P => c_Sh_ordered0 (scr := scr) (P := P) x0 x3 hC hrC h0
    refine ST_ex (rv := vI 0) hj (CS_x e hj.1) (fun e => w_ordered_11 x0 e) (fun k1 m l => ?_) (fun g m e1 e2 o P => lw_11 hi g m e1 e2 o (by omega) (fun h9 => absurd h9 (by omega)))
    obtain ⟨m0, m66, ⟨A, m67, lA, pA⟩, ⟨B, m71, lB, pB⟩, hm, hms, ⟨Wd, hw⟩⟩ := id m
    exact RS_65 m (fun P => c_Mo_ordered0 m0 m66 hC hrC (by rw [ab]; exact h0))
  · by_cases h2 : es.length < 12
    · have hcl : cs.length < 12 := by rw [← hc.1]; exact h2
      obtain ⟨g1, g2, g3, g4, g5, g6⟩ := go_gd hC hnn (by omega)
      obtain ⟨h', e, mk⟩ := c_Sh_ordered (scr := scr) x0 x3 hC hnn hsum hl hsi.1 (by omega) h0 h2 g2 g3
      obtain ⟨j1, j2, j3, j4, j5⟩ := Jc_mk hj.1 hl hc mk g1.1
      rw [hc.1] at e
      refine ST_ok hj (⟨h', e, j1, j2, j3, j4, j5⟩) (fun e g => w_ordered_o x0 e g) (fun k1 m l => ?_) (fun g m e1 e2 o P => lw_11 hi g m e1 e2 o (by omega) (fun _ => rfl)) (st_app st hcl g1)
      obtain ⟨m0, m66, ⟨A, m67, lA, pA⟩, ⟨B, m71, lB, pB⟩, hm, hms, ⟨Wd, hw⟩⟩ := id m
      obtain ⟨h2', e2, mk2⟩ := c_Mo_ordered (scr := scr) m0 m66 hm hms (by omega) hC hnn hsum (by rw [ab]; exact h0) hcl (by rw [g4]; exact g2) g5
      rw [g6, g4] at mk2
      exact RS_mk m e2 mk2
    · have e := fun P => c_Sh_ordered1 (scr := scr) (P := P) x0 x3 hC hrC hl (by omega) h0 h2
      refine ST_ex (rv := vI 0) hj (CS_x e hj.1) (fun e => w_ordered_9 x0 e) (fun k1 m l => ?_) (fun g m e1 e2 o P => lw_11 hi g m e1 e2 o (by omega) (fun h9 => absurd h9 (by omega)))
      obtain ⟨m0, m66, ⟨A, m67, lA, pA⟩, ⟨B, m71, lB, pB⟩, hm, hms, ⟨Wd, hw⟩⟩ := id m
      exact RS_65 m (fun P => c_Mo_ordered1 m0 m66 hC hrC (by rw [ab]; exact h0) (by have := hc.1; omega))
theorem op_10 {a1 : Int} (hj : J h T C S cs wr th) (hi : 0 ≤ i ∧ i < 1000000) (s1 : scr[(i + 1).toNat]? = some a1) (r1 : -2147483648 ≤ a1 ∧ a1 < 2147483648) : ST scr 24 i h := by
  obtain ⟨⟨x0, x1, x3, x6, ⟨es, hl, hc⟩, hsi, hbi, ⟨O, x47⟩⟩, jm, ⟨u0, o1⟩, _, st⟩ := id hj
  obtain ⟨⟨hT, hTr⟩, ⟨hC, hCr⟩, ⟨hS, hSr⟩, ⟨hn, hg⟩, hwr⟩ := id st
  have hn' : es.length ≤ 12 := by rw [hc.1]; exact hn
  have hO := csO_of ⟨hn, hg⟩
  have hnn : ∀ x ∈ C, 0 ≤ x := fun x hx => (hCr x hx).1
  have hsum : C.sum < 80000000 := by have := sumC hCr; omega
  have hrC := rngC hCr
  have ab := abF_cntS hC hnn
  have hln := gt_lt o1
  have car := abF_rngC hC
  by_cases h1 : (1 ≤ a1 ∧ a1 ≤ 25) ∧ cntS C ≠ 0 ∧ cntS C ≤ 2 ^ a1.toNat ∧ es.length < 12
  · obtain ⟨b1, b2, b3, b4⟩ := h1
    obtain ⟨bn, rfl⟩ := Int.eq_ofNat_of_zero_le (show 0 ≤ a1 by omega)
    have hcl : cs.length < 12 := by rw [← hc.1]; exact b4
    rw [Int.toNat_natCast] at b3
    have hb : 1 ≤ bn ∧ bn ≤ 25 := by omega
    have b3' : abF C ≤ 2 ^ bn := by rw [ab]; exact b3
    obtain ⟨g1, g2, g3, g4⟩ := ms_gd hC hnn (by omega) hb b3'
    have cc := c_Sh_bounded (scr := scr) (b := (bn : Int)) x0 x3 hC hnn hsum hl hsi.1 (by omega) b1 b2 (by rw [Int.toNat_natCast]; exact b3) b4 (by rw [Int.toNat_natCast]; exact g2)
    rw [Int.toNat_natCast] at cc
    obtain ⟨h', e, mk⟩ := cc
    obtain ⟨j1, j2, j3, j4, j5⟩ := Jc_mk hj.1 hl hc mk g1.1
    rw [hc.1] at e
    refine ST_ok hj (⟨h', e, j1, j2, j3, j4, j5⟩) (fun e g => w_bounded_o x0 e g) (fun k1 m l => ?_) (fun g m e1 e2 o P => lw_10 s1 hi g m e1 e2 o (by omega) (fun _ => rfl)) (st_app st hcl g1)
    obtain ⟨m0, m66, ⟨A, m67, lA, pA⟩, ⟨B, m71, lB, pB⟩, hm, hms, ⟨Wd, hw⟩⟩ := id m
    obtain ⟨h2', e2, mk2⟩ := c_Mo_bounded (scr := scr) m0 m66 hm hms (by omega) hC hnn hsum hb (by rw [ab]; exact b2) b3' hcl (by rw [g3]; exact g2)
    rw [g3, g4] at mk2
    exact RS_mk m e2 mk2
  · have e := fun P => c_Sh_boundedE (scr := scr) (P := P) x0 x3 hC hrC hl (by omega) r1 h1
    have h1' : ¬ ((1 ≤ a1 ∧ a1 ≤ 25) ∧ ¬ abF C = 0 ∧ abF C ≤ 2 ^ a1.toNat ∧ ((cs.length : Nat) : Int) < 12) := fun h9 => h1 ⟨h9.1, by rw [← ab]; exact h9.2.1, by rw [← ab]; exact h9.2.2.1, by have := hc.1; omega⟩
    have em : ∀ {h1 : Hp}, Jm h1 T C S cs wr th → ∀ P, _ := fun {h1} m P => c_Mo_boundedE (scr := scr) (P := P) m.1 m.2.1 hC hrC r1 (by omega) h1'
    rw [ab] at em
    by_cases b1 : 1 ≤ a1 ∧ a1 ≤ 25
    · by_cases b2 : cntS C = 0
      · simp only [if_pos b1, if_pos b2] at e em
        refine ST_ex (rv := vI 0) hj (CS_x e hj.1) (fun e => w_bounded_11 x0 e) (fun k1 m l => ?_) (fun g m e1 e2 o P => lw_10 s1 hi g m e1 e2 o (by omega) (fun h9 => absurd h9 (by omega)))
        exact RS_65 m (em m)
      · by_cases b3 : cntS C ≤ 2 ^ a1.toNat
        · simp only [if_pos b1, if_neg b2, if_pos b3] at e em
          refine ST_ex (rv := vI 0) hj (CS_x e hj.1) (fun e => w_bounded_9 x0 e) (fun k1 m l => ?_) (fun g m e1 e2 o P => lw_10 s1 hi g m e1 e2 o (by omega) (fun h9 => absurd h9 (by omega)))
          exact RS_65 m (em m)
        · simp only [if_pos b1, if_neg b2, if_neg b3] at e em
          refine ST_ex (rv := vI 0) hj (CS_x e hj.1) (fun e => w_bounded_12 x0 e) (fun k1 m l => ?_) (fun g m e1 e2 o P => lw_10 s1 hi g m e1 e2 o (by omega) (fun h9 => absurd h9 (by omega)))
          exact RS_65 m (em m)
    · simp only [if_neg b1] at e em
      refine ST_ex (rv := vI 0) hj (CS_x e hj.1) (fun e => w_bounded_8 x0 e) (fun k1 m l => ?_) (fun g m e1 e2 o P => lw_10 s1 hi g m e1 e2 o (by omega) (fun h9 => absurd h9 (by omega)))
      exact RS_65 m (em m)
end
