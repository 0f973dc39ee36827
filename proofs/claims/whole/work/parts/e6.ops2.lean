/-! THE LAW op by op: codes asked -/
section
variable {scr : List Int} {h : Hp} {T C S : List Int} {cs : List cdT} {wr : Nat} {th i : Int}
theorem op_16 {a1 : Int} (hj : J h T C S cs wr th) (hi : 0 ≤ i ∧ i < 1000000) (s1 : scr[(i + 1).toNat]? = some a1) (r1 : -2147483648 ≤ a1 ∧ a1 < 2147483648) : ST scr 38 i h := by
  obtain ⟨⟨x0, x1, x3, x6, ⟨es, hl, hc⟩, hsi, hbi, ⟨O, x47⟩⟩, jm, ⟨u0, o1⟩, _, st⟩ := id hj
  obtain ⟨⟨hT, hTr⟩, ⟨hC, hCr⟩, ⟨hS, hSr⟩, ⟨hn, hg⟩, hwr⟩ := id st
  have hn' : es.length ≤ 12 := by rw [hc.1]; exact hn
  have hO := csO_of ⟨hn, hg⟩
  have e := fun P => c_Sh_kindOf (scr := scr) (P := P) x0 hl hc hn' r1
  by_cases h1 : 0 ≤ a1 ∧ a1 < (es.length : Int)
  · obtain ⟨c, rfl⟩ := Int.eq_ofNat_of_zero_le h1.1
    have hcl : c < cs.length := by rw [← hc.1]; omega
    simp only [if_pos h1, Int.toNat_natCast] at e
    refine ST_ok hj (CS_same e hj.1) (fun e g => w_kindOf_o x0 e g) (fun k1 m l => ?_) (fun g m e1 e2 o P => lw_16 s1 hi g m e1 e2 o (by omega) (fun _ => rfl)) (st)
    obtain ⟨m0, m66, ⟨A, m67, lA, pA⟩, ⟨B, m71, lB, pB⟩, hm, hms, ⟨Wd, hw⟩⟩ := id m
    exact RS_65 m (fun P => c_Mo_kindOf m0 hm hO hcl)
  · simp only [if_neg h1] at e
    refine ST_ex (rv := vI 104) hj (CS_x e hj.1) (fun e => w_kindOf_10 x0 e) (fun k1 m l => ?_) (fun g m e1 e2 o P => lw_16 s1 hi g m e1 e2 o (by omega) (fun h9 => absurd h9 (by omega)))
    obtain ⟨m0, m66, ⟨A, m67, lA, pA⟩, ⟨B, m71, lB, pB⟩, hm, hms, ⟨Wd, hw⟩⟩ := id m
    exact RS_65 m (fun P => c_Mo_kindOfE m0 hO r1 (by rw [← hc.1]; omega))
theorem op_17 {a1 : Int} (hj : J h T C S cs wr th) (hi : 0 ≤ i ∧ i < 1000000) (s1 : scr[(i + 1).toNat]? = some a1) (r1 : -2147483648 ≤ a1 ∧ a1 < 2147483648) : ST scr 41 i h := by
  obtain ⟨⟨x0, x1, x3, x6, ⟨es, hl, hc⟩, hsi, hbi, ⟨O, x47⟩⟩, jm, ⟨u0, o1⟩, _, st⟩ := id hj
  obtain ⟨⟨hT, hTr⟩, ⟨hC, hCr⟩, ⟨hS, hSr⟩, ⟨hn, hg⟩, hwr⟩ := id st
  have hn' : es.length ≤ 12 := by rw [hc.1]; exact hn
  have hO := csO_of ⟨hn, hg⟩
  have e := fun P => c_Sh_signs (scr := scr) (P := P) x0 hl hc hn' r1
  by_cases h1 : 0 ≤ a1 ∧ a1 < (es.length : Int)
  · obtain ⟨c, rfl⟩ := Int.eq_ofNat_of_zero_le h1.1
    have hcl : c < cs.length := by rw [← hc.1]; omega
    simp only [if_pos h1, Int.toNat_natCast] at e
    refine ST_ok hj (CS_same e hj.1) (fun e g => w_signs_o x0 e g) (fun k1 m l => ?_) (fun g m e1 e2 o P => lw_17 s1 hi g m e1 e2 o (by omega) (fun _ => rfl)) (st)
    obtain ⟨m0, m66, ⟨A, m67, lA, pA⟩, ⟨B, m71, lB, pB⟩, hm, hms, ⟨Wd, hw⟩⟩ := id m
    exact RS_65 m (fun P => c_Mo_signs m0 hm hO hcl)
  · simp only [if_neg h1] at e
    refine ST_ex (rv := vI 0) hj (CS_x e hj.1) (fun e => w_signs_10 x0 e) (fun k1 m l => ?_) (fun g m e1 e2 o P => lw_17 s1 hi g m e1 e2 o (by omega) (fun h9 => absurd h9 (by omega)))
    obtain ⟨m0, m66, ⟨A, m67, lA, pA⟩, ⟨B, m71, lB, pB⟩, hm, hms, ⟨Wd, hw⟩⟩ := id m
    exact RS_65 m (fun P => c_Mo_signsE m0 hO r1 (by rw [← hc.1]; omega))
theorem op_21 {a1 : Int} (hj : J h T C S cs wr th) (hi : 0 ≤ i ∧ i < 1000000) (s1 : scr[(i + 1).toNat]? = some a1) (r1 : -2147483648 ≤ a1 ∧ a1 < 2147483648) : ST scr 53 i h := by
  obtain ⟨⟨x0, x1, x3, x6, ⟨es, hl, hc⟩, hsi, hbi, ⟨O, x47⟩⟩, jm, ⟨u0, o1⟩, _, st⟩ := id hj
  obtain ⟨⟨hT, hTr⟩, ⟨hC, hCr⟩, ⟨hS, hSr⟩, ⟨hn, hg⟩, hwr⟩ := id st
  have hn' : es.length ≤ 12 := by rw [hc.1]; exact hn
  have hO := csO_of ⟨hn, hg⟩
  have e := fun P => c_Sh_longest (scr := scr) (P := P) x0 hl hc hn' r1
  by_cases h1 : 0 ≤ a1 ∧ a1 < (es.length : Int)
  · obtain ⟨c, rfl⟩ := Int.eq_ofNat_of_zero_le h1.1
    have hcl : c < cs.length := by rw [← hc.1]; omega
    simp only [if_pos h1, Int.toNat_natCast] at e
    refine ST_ok hj (CS_same e hj.1) (fun e g => w_longest_o x0 e g) (fun k1 m l => ?_) (fun g m e1 e2 o P => lw_21 s1 hi g m e1 e2 o (by omega) (fun _ => rfl)) (st)
    obtain ⟨m0, m66, ⟨A, m67, lA, pA⟩, ⟨B, m71, lB, pB⟩, hm, hms, ⟨Wd, hw⟩⟩ := id m
    exact RS_65 m (fun P => c_Mo_longest m0 hm hO hcl)
  · simp only [if_neg h1] at e
    refine ST_ex (rv := vI 0) hj (CS_x e hj.1) (fun e => w_longest_10 x0 e) (fun k1 m l => ?_) (fun g m e1 e2 o P => lw_21 s1 hi g m e1 e2 o (by omega) (fun h9 => absurd h9 (by omega)))
    obtain ⟨m0, m66, ⟨A, m67, lA, pA⟩, ⟨B, m71, lB, pB⟩, hm, hms, ⟨Wd, hw⟩⟩ := id m
    exact RS_65 m (fun P => c_Mo_longestE m0 hO r1 (by rw [← hc.1]; omega))
theorem op_23 {a1 : Int} (hj : J h T C S cs wr th) (hi : 0 ≤ i ∧ i < 1000000) (s1 : scr[(i + 1).toNat]? = some a1) (r1 : -2147483648 ≤ a1 ∧ a1 < 2147483648) : ST scr 59 i h := by
  obtain ⟨⟨x0, x1, x3, x6, ⟨es, hl, hc⟩, hsi, hbi, ⟨O, x47⟩⟩, jm, ⟨u0, o1⟩, _, st⟩ := id hj
  obtain ⟨⟨hT, hTr⟩, ⟨hC, hCr⟩, ⟨hS, hSr⟩, ⟨hn, hg⟩, hwr⟩ := id st
  have hn' : es.length ≤ 12 := by rw [hc.1]; exact hn
  have hO := csO_of ⟨hn, hg⟩
  have e := fun P => c_Sh_sum (scr := scr) (P := P) x0 hl hc hn' r1
  by_cases h1 : 0 ≤ a1 ∧ a1 < (es.length : Int)
  · obtain ⟨c, rfl⟩ := Int.eq_ofNat_of_zero_le h1.1
    have hcl : c < cs.length := by rw [← hc.1]; omega
    simp only [if_pos h1, Int.toNat_natCast] at e
    refine ST_ok hj (CS_same e hj.1) (fun e g => w_sum_o x0 e g) (fun k1 m l => ?_) (fun g m e1 e2 o P => lw_23 s1 hi g m e1 e2 o (by omega) (fun _ => rfl)) (st)
    obtain ⟨m0, m66, ⟨A, m67, lA, pA⟩, ⟨B, m71, lB, pB⟩, hm, hms, ⟨Wd, hw⟩⟩ := id m
    exact RS_65 m (fun P => c_Mo_sum m0 hm hO hcl)
  · simp only [if_neg h1] at e
    refine ST_ex (rv := vL 0) hj (CS_x e hj.1) (fun e => w_sum_10 x0 e) (fun k1 m l => ?_) (fun g m e1 e2 o P => lw_23 s1 hi g m e1 e2 o (by omega) (fun h9 => absurd h9 (by omega)))
    obtain ⟨m0, m66, ⟨A, m67, lA, pA⟩, ⟨B, m71, lB, pB⟩, hm, hms, ⟨Wd, hw⟩⟩ := id m
    exact RS_65 m (fun P => c_Mo_sumE m0 hO r1 (by rw [← hc.1]; omega))
theorem op_22 {a1 : Int} (hj : J h T C S cs wr th) (hi : 0 ≤ i ∧ i < 1000000) (s1 : scr[(i + 1).toNat]? = some a1) (r1 : -2147483648 ≤ a1 ∧ a1 < 2147483648) : ST scr 56 i h := by
  obtain ⟨⟨x0, x1, x3, x6, ⟨es, hl, hc⟩, hsi, hbi, ⟨O, x47⟩⟩, jm, ⟨u0, o1⟩, _, st⟩ := id hj
  obtain ⟨⟨hT, hTr⟩, ⟨hC, hCr⟩, ⟨hS, hSr⟩, ⟨hn, hg⟩, hwr⟩ := id st
  have hn' : es.length ≤ 12 := by rw [hc.1]; exact hn
  have hO := csO_of ⟨hn, hg⟩
  have e := fun P => c_Sh_bits (scr := scr) (P := P) x0 x3 (rngC hCr) hl hc hn' r1
  by_cases h1 : 0 ≤ a1 ∧ a1 < (es.length : Int)
  · obtain ⟨c, rfl⟩ := Int.eq_ofNat_of_zero_le h1.1
    have hcl : c < cs.length := by rw [← hc.1]; omega
    simp only [if_pos h1, Int.toNat_natCast] at e
    by_cases h2 : nwF C (cs.getD c cd0).2.1 26 0 = true
    · simp only [if_pos h2] at e
      refine ST_ok hj (CS_same e hj.1) (fun e g => w_bits_o x0 e g) (fun k1 m l => ?_) (fun g m e1 e2 o P => lw_22 s1 hi g m e1 e2 o (by omega) (fun _ => rfl)) (st)
      obtain ⟨m0, m66, ⟨A, m67, lA, pA⟩, ⟨B, m71, lB, pB⟩, hm, hms, ⟨Wd, hw⟩⟩ := id m
      have e2 := fun P => c_Mo_bits (scr := scr) (P := P) m0 m66 hm hO hcl hC (fun x hx => (hCr x hx).1) (rngC hCr)
      simp only [if_pos h2] at e2
      exact RS_65 m e2
    · simp only [if_neg h2] at e
      refine ST_ex (rv := vI 0) hj (CS_x e hj.1) (fun e => w_bits_11 x0 e) (fun k1 m l => ?_) (fun g m e1 e2 o P => lw_22 s1 hi g m e1 e2 o (by omega) (fun h9 => absurd h9 (by omega)))
      obtain ⟨m0, m66, ⟨A, m67, lA, pA⟩, ⟨B, m71, lB, pB⟩, hm, hms, ⟨Wd, hw⟩⟩ := id m
      have e2 := fun P => c_Mo_bits (scr := scr) (P := P) m0 m66 hm hO hcl hC (fun x hx => (hCr x hx).1) (rngC hCr)
      simp only [if_neg h2] at e2
      exact RS_65 m e2
  · simp only [if_neg h1] at e
    refine ST_ex (rv := vI 0) hj (CS_x e hj.1) (fun e => w_bits_10 x0 e) (fun k1 m l => ?_) (fun g m e1 e2 o P => lw_22 s1 hi g m e1 e2 o (by omega) (fun h9 => absurd h9 (by omega)))
    obtain ⟨m0, m66, ⟨A, m67, lA, pA⟩, ⟨B, m71, lB, pB⟩, hm, hms, ⟨Wd, hw⟩⟩ := id m
    exact RS_65 m (fun P => c_Mo_bitsE m0 hO r1 (by rw [← hc.1]; omega))
theorem op_19 {a1 a2 : Int} (hj : J h T C S cs wr th) (hi : 0 ≤ i ∧ i < 1000000) (s1 : scr[(i + 1).toNat]? = some a1) (s2 : scr[(i + 2).toNat]? = some a2) (r1 : -2147483648 ≤ a1 ∧ a1 < 2147483648) (r2 : -2147483648 ≤ a2 ∧ a2 < 2147483648) : ST scr 47 i h := by
  obtain ⟨⟨x0, x1, x3, x6, ⟨es, hl, hc⟩, hsi, hbi, ⟨O, x47⟩⟩, jm, ⟨u0, o1⟩, _, st⟩ := id hj
  obtain ⟨⟨hT, hTr⟩, ⟨hC, hCr⟩, ⟨hS, hSr⟩, ⟨hn, hg⟩, hwr⟩ := id st
  have c2 : 0 ≤ a2 % 65536 ∧ a2 % 65536 < 65536 := by omega
  have hn' : es.length ≤ 12 := by rw [hc.1]; exact hn
  have hO := csO_of ⟨hn, hg⟩
  have e := fun P => c_Sh_wordLength (scr := scr) (P := P) x0 hl hc hn' r1 c2
  by_cases h1 : 0 ≤ a1 ∧ a1 < (es.length : Int)
  · obtain ⟨c, rfl⟩ := Int.eq_ofNat_of_zero_le h1.1
    have hcl : c < cs.length := by rw [← hc.1]; omega
    simp only [if_pos h1, Int.toNat_natCast] at e
    by_cases h2 : 97 ≤ a2 % 65536 ∧ a2 % 65536 ≤ 122
    · by_cases h3 : yat (cs.getD c cd0).2.1 (a2 % 65536 - 97) < 0
      · simp only [if_pos h2, if_pos h3] at e
        refine ST_ex (rv := vI 0) hj (CS_x e hj.1) (fun e => w_wordLength_11 x0 e) (fun k1 m l => ?_) (fun g m e1 e2 o P => lw_19 s1 s2 hi g m e1 e2 o (by omega) (fun h9 => absurd h9 (by omega)))
        obtain ⟨m0, m66, ⟨A, m67, lA, pA⟩, ⟨B, m71, lB, pB⟩, hm, hms, ⟨Wd, hw⟩⟩ := id m
        have e2 := fun P => c_Mo_wordLength (scr := scr) (P := P) m0 hm hO hcl c2
        simp only [if_pos h2, if_pos h3] at e2
        exact RS_65 m e2
      · simp only [if_pos h2, if_neg h3] at e
        refine ST_ok hj (CS_same e hj.1) (fun e g => w_wordLength_o x0 e g) (fun k1 m l => ?_) (fun g m e1 e2 o P => lw_19 s1 s2 hi g m e1 e2 o (by omega) (fun _ => rfl)) (st)
        obtain ⟨m0, m66, ⟨A, m67, lA, pA⟩, ⟨B, m71, lB, pB⟩, hm, hms, ⟨Wd, hw⟩⟩ := id m
        have e2 := fun P => c_Mo_wordLength (scr := scr) (P := P) m0 hm hO hcl c2
        simp only [if_pos h2, if_neg h3] at e2
        exact RS_65 m e2
    · simp only [if_neg h2] at e
      refine ST_ex (rv := vI 0) hj (CS_x e hj.1) (fun e => w_wordLength_8 x0 e) (fun k1 m l => ?_) (fun g m e1 e2 o P => lw_19 s1 s2 hi g m e1 e2 o (by omega) (fun h9 => absurd h9 (by omega)))
      obtain ⟨m0, m66, ⟨A, m67, lA, pA⟩, ⟨B, m71, lB, pB⟩, hm, hms, ⟨Wd, hw⟩⟩ := id m
      have e2 := fun P => c_Mo_wordLength (scr := scr) (P := P) m0 hm hO hcl c2
      simp only [if_neg h2] at e2
      exact RS_65 m e2
  · simp only [if_neg h1] at e
    refine ST_ex (rv := vI 0) hj (CS_x e hj.1) (fun e => w_wordLength_10 x0 e) (fun k1 m l => ?_) (fun g m e1 e2 o P => lw_19 s1 s2 hi g m e1 e2 o (by omega) (fun h9 => absurd h9 (by omega)))
    obtain ⟨m0, m66, ⟨A, m67, lA, pA⟩, ⟨B, m71, lB, pB⟩, hm, hms, ⟨Wd, hw⟩⟩ := id m
    exact RS_65 m (fun P => c_Mo_wordLengthE m0 hO r1 (by rw [← hc.1]; omega))
theorem op_20 {a1 a2 a3 : Int} (hj : J h T C S cs wr th) (hi : 0 ≤ i ∧ i < 1000000) (s1 : scr[(i + 1).toNat]? = some a1) (s2 : scr[(i + 2).toNat]? = some a2) (s3 : scr[(i + 3).toNat]? = some a3) (r1 : -2147483648 ≤ a1 ∧ a1 < 2147483648) (r2 : -2147483648 ≤ a2 ∧ a2 < 2147483648) (r3 : -2147483648 ≤ a3 ∧ a3 < 2147483648) : ST scr 50 i h := by
  obtain ⟨⟨x0, x1, x3, x6, ⟨es, hl, hc⟩, hsi, hbi, ⟨O, x47⟩⟩, jm, ⟨u0, o1⟩, _, st⟩ := id hj
  obtain ⟨⟨hT, hTr⟩, ⟨hC, hCr⟩, ⟨hS, hSr⟩, ⟨hn, hg⟩, hwr⟩ := id st
  have c2 : 0 ≤ a2 % 65536 ∧ a2 % 65536 < 65536 := by omega
  have hn' : es.length ≤ 12 := by rw [hc.1]; exact hn
  have hO := csO_of ⟨hn, hg⟩
  have e := fun P => c_Sh_wordBit (scr := scr) (P := P) x0 hl hc hn' r1 c2 r3
  by_cases h1 : 0 ≤ a1 ∧ a1 < (es.length : Int)
  · obtain ⟨c, rfl⟩ := Int.eq_ofNat_of_zero_le h1.1
    have hcl : c < cs.length := by rw [← hc.1]; omega
    simp only [if_pos h1, Int.toNat_natCast] at e
    by_cases h2 : 97 ≤ a2 % 65536 ∧ a2 % 65536 ≤ 122
    · by_cases h3 : 0 ≤ a3 ∧ a3 < yat (cs.getD c cd0).2.1 (a2 % 65536 - 97)
      · simp only [if_pos h2, if_pos h3] at e
        refine ST_ok hj (CS_same e hj.1) (fun e g => w_wordBit_o x0 e g) (fun k1 m l => ?_) (fun g m e1 e2 o P => lw_20 s1 s2 s3 hi g m e1 e2 o (by omega) (fun _ => rfl)) (st)
        obtain ⟨m0, m66, ⟨A, m67, lA, pA⟩, ⟨B, m71, lB, pB⟩, hm, hms, ⟨Wd, hw⟩⟩ := id m
        have e2 := fun P => c_Mo_wordBit (scr := scr) (P := P) m0 hm hO hcl c2 r3
        simp only [if_pos h2, if_pos h3] at e2
        exact RS_65 m e2
      · simp only [if_pos h2, if_neg h3] at e
        refine ST_ex (rv := vI 48) hj (CS_x e hj.1) (fun e => w_wordBit_11 x0 e) (fun k1 m l => ?_) (fun g m e1 e2 o P => lw_20 s1 s2 s3 hi g m e1 e2 o (by omega) (fun h9 => absurd h9 (by omega)))
        obtain ⟨m0, m66, ⟨A, m67, lA, pA⟩, ⟨B, m71, lB, pB⟩, hm, hms, ⟨Wd, hw⟩⟩ := id m
        have e2 := fun P => c_Mo_wordBit (scr := scr) (P := P) m0 hm hO hcl c2 r3
        simp only [if_pos h2, if_neg h3] at e2
        exact RS_65 m e2
    · simp only [if_neg h2] at e
      refine ST_ex (rv := vI 48) hj (CS_x e hj.1) (fun e => w_wordBit_8 x0 e) (fun k1 m l => ?_) (fun g m e1 e2 o P => lw_20 s1 s2 s3 hi g m e1 e2 o (by omega) (fun h9 => absurd h9 (by omega)))
      obtain ⟨m0, m66, ⟨A, m67, lA, pA⟩, ⟨B, m71, lB, pB⟩, hm, hms, ⟨Wd, hw⟩⟩ := id m
      have e2 := fun P => c_Mo_wordBit (scr := scr) (P := P) m0 hm hO hcl c2 r3
      simp only [if_neg h2] at e2
      exact RS_65 m e2
  · simp only [if_neg h1] at e
    refine ST_ex (rv := vI 48) hj (CS_x e hj.1) (fun e => w_wordBit_10 x0 e) (fun k1 m l => ?_) (fun g m e1 e2 o P => lw_20 s1 s2 s3 hi g m e1 e2 o (by omega) (fun h9 => absurd h9 (by omega)))
    obtain ⟨m0, m66, ⟨A, m67, lA, pA⟩, ⟨B, m71, lB, pB⟩, hm, hms, ⟨Wd, hw⟩⟩ := id m
    exact RS_65 m (fun P => c_Mo_wordBitE m0 hO r1 (by rw [← hc.1]; omega))
theorem gd_sa {q : cdT} (h : gdC q) (r : Int) : (0 ≤ r ∧ r < (q.2.1.length : Int) - (q.2.1.count (-1) : Nat) → saM q r 26 0 (-1) = srF q.1 q.2.1 q.2.2 (r + 1).toNat (-1) (-1) ∧ 0 ≤ srF q.1 q.2.1 q.2.2 (r + 1).toNat (-1) (-1)) ∧ (¬ (0 ≤ r ∧ r < (q.2.1.length : Int) - (q.2.1.count (-1) : Nat)) → saM q r 26 0 (-1) = -1) := sr_sa rfl (by rcases bs_or q.1 with e | e <;> omega) h.2.2.1 h.1.2.1 h.1.2.2.1 r
theorem op_18 {a1 a2 : Int} (hj : J h T C S cs wr th) (hi : 0 ≤ i ∧ i < 1000000) (s1 : scr[(i + 1).toNat]? = some a1) (s2 : scr[(i + 2).toNat]? = some a2) (r1 : -2147483648 ≤ a1 ∧ a1 < 2147483648) (r2 : -2147483648 ≤ a2 ∧ a2 < 2147483648) : ST scr 44 i h := by
  obtain ⟨⟨x0, x1, x3, x6, ⟨es, hl, hc⟩, hsi, hbi, ⟨O, x47⟩⟩, jm, ⟨u0, o1⟩, _, st⟩ := id hj
  obtain ⟨⟨hT, hTr⟩, ⟨hC, hCr⟩, ⟨hS, hSr⟩, ⟨hn, hg⟩, hwr⟩ := id st
  have hn' : es.length ≤ 12 := by rw [hc.1]; exact hn
  have hO := csO_of ⟨hn, hg⟩
  have e := fun P => c_Sh_signAt (scr := scr) (P := P) x0 hl hc hn' r1 r2 (fun q hq r hr => ((gd_sa (hg q hq) r).1 hr).2)
  by_cases h1 : 0 ≤ a1 ∧ a1 < (es.length : Int)
  · obtain ⟨c, rfl⟩ := Int.eq_ofNat_of_zero_le h1.1
    have hcl : c < cs.length := by rw [← hc.1]; omega
    simp only [if_pos h1, Int.toNat_natCast] at e
    have hgc := gd_sa (hg _ (mem_getD (d := cd0) hcl)) a2
    by_cases h2 : 0 ≤ a2 ∧ a2 < ((cs.getD c cd0).2.1.length : Int) - ((cs.getD c cd0).2.1.count (-1) : Nat)
    · simp only [if_pos h2] at e
      obtain ⟨g1, g2⟩ := hgc.1 h2
      refine ST_ok hj (CS_same e hj.1) (fun e g => w_signAt_o x0 e g) (fun k1 m l => ?_) (fun g m e1 e2 o P => lw_18 s1 s2 hi g m e1 e2 o (by omega) (fun _ => rfl)) (st)
      obtain ⟨m0, m66, ⟨A, m67, lA, pA⟩, ⟨B, m71, lB, pB⟩, hm, hms, ⟨Wd, hw⟩⟩ := id m
      have e2 := fun P => c_Mo_signAt (scr := scr) (P := P) r2 m0 hm hO hcl
      rw [g1] at e2
      simp only [if_pos g2] at e2
      exact RS_65 m e2
    · simp only [if_neg h2] at e
      have g1 := hgc.2 h2
      refine ST_ex (rv := vI 97) hj (CS_x e hj.1) (fun e => w_signAt_10 x0 e) (fun k1 m l => ?_) (fun g m e1 e2 o P => lw_18 s1 s2 hi g m e1 e2 o (by omega) (fun h9 => absurd h9 (by omega)))
      obtain ⟨m0, m66, ⟨A, m67, lA, pA⟩, ⟨B, m71, lB, pB⟩, hm, hms, ⟨Wd, hw⟩⟩ := id m
      have e2 := fun P => c_Mo_signAt (scr := scr) (P := P) r2 m0 hm hO hcl
      rw [g1] at e2
      simp only [if_neg (show ¬ (0 : Int) ≤ -1 by decide)] at e2
      exact RS_65 m e2
  · simp only [if_neg h1] at e
    refine ST_ex (rv := vI 97) hj (CS_x e hj.1) (fun e => w_signAt_10 x0 e) (fun k1 m l => ?_) (fun g m e1 e2 o P => lw_18 s1 s2 hi g m e1 e2 o (by omega) (fun h9 => absurd h9 (by omega)))
    obtain ⟨m0, m66, ⟨A, m67, lA, pA⟩, ⟨B, m71, lB, pB⟩, hm, hms, ⟨Wd, hw⟩⟩ := id m
    exact RS_65 m (fun P => c_Mo_signAtE m0 hO r1 (by rw [← hc.1]; omega))
theorem gd_2 {q : cdT} (h : gdC q) (h1 : ¬ q.1 = 116) : apart 2 q.2.1 q.2.2 := by
  have := h.2.2.1
  rwa [show bs q.1 = 2 from if_neg h1] at this
theorem gd_25 {q : cdT} (h : gdC q) : ∀ x ∈ q.2.1, x ≤ 25 := fun x hx => (h.1.2.2.1 x hx).2
theorem op_24 {a1 a2 a3 : Int} (hj : J h T C S cs wr th) (hi : 0 ≤ i ∧ i < 1000000) (s1 : scr[(i + 1).toNat]? = some a1) (s2 : scr[(i + 2).toNat]? = some a2) (s3 : scr[(i + 3).toNat]? = some a3) (r1 : -2147483648 ≤ a1 ∧ a1 < 2147483648) (r2 : -2147483648 ≤ a2 ∧ a2 < 2147483648) (r3 : -2147483648 ≤ a3 ∧ a3 < 2147483648) : ST scr 62 i h := by
  obtain ⟨⟨x0, x1, x3, x6, ⟨es, hl, hc⟩, hsi, hbi, ⟨O, x47⟩⟩, jm, ⟨u0, o1⟩, _, st⟩ := id hj
  obtain ⟨⟨hT, hTr⟩, ⟨hC, hCr⟩, ⟨hS, hSr⟩, ⟨hn, hg⟩, hwr⟩ := id st
  have hn' : es.length ≤ 12 := by rw [hc.1]; exact hn
  have hO := csO_of ⟨hn, hg⟩
  have e := fun P => c_Sh_lookup (scr := scr) (P := P) x0 hl hc hn' r1 r2 r3
  by_cases h1 : 0 ≤ a1 ∧ a1 < (es.length : Int)
  · obtain ⟨c, rfl⟩ := Int.eq_ofNat_of_zero_le h1.1
    have hcl : c < cs.length := by rw [← hc.1]; omega
    simp only [if_pos h1, Int.toNat_natCast] at e
    have hgc := hg _ (mem_getD (d := cd0) hcl)
    by_cases h2 : (1 ≤ a2 ∧ a2 ≤ 8) ∧ 0 ≤ a3 ∧ a3 < 2 ^ a2.toNat
    · by_cases h3 : (cs.getD c cd0).1 = 116
      · simp only [if_pos h2, if_pos h3] at e
        refine ST_ex (rv := vI 0) hj (CS_x e hj.1) (fun e => w_lookup_12 x0 e) (fun k1 m l => ?_) (fun g m e1 e2 o P => lw_24 s1 s2 s3 hi g m e1 e2 o (by omega) (fun h9 => absurd h9 (by omega)))
        obtain ⟨m0, m66, ⟨A, m67, lA, pA⟩, ⟨B, m71, lB, pB⟩, hm, hms, ⟨Wd, hw⟩⟩ := id m
        have e2 := fun P => c_Mo_lookup (scr := scr) (P := P) m0 hm hO hcl r2 r3
        simp only [if_pos h2, if_pos h3] at e2
        exact RS_65 m e2
      · simp only [if_pos h2, if_neg h3] at e
        rw [lk_lm (ap_wok (gd_2 hgc h3) (gd_25 hgc)) h2.1 h2.2 hgc.1.2.1] at e
        refine ST_ok hj (CS_same e hj.1) (fun e g => w_lookup_o x0 e g) (fun k1 m l => ?_) (fun g m e1 e2 o P => lw_24 s1 s2 s3 hi g m e1 e2 o (by omega) (fun _ => rfl)) (st)
        obtain ⟨m0, m66, ⟨A, m67, lA, pA⟩, ⟨B, m71, lB, pB⟩, hm, hms, ⟨Wd, hw⟩⟩ := id m
        have e2 := fun P => c_Mo_lookup (scr := scr) (P := P) m0 hm hO hcl r2 r3
        simp only [if_pos h2, if_neg h3] at e2
        exact RS_65 m e2
    · simp only [if_neg h2] at e
      refine ST_ex (rv := vI 0) hj (CS_x e hj.1) (fun e => w_lookup_8 x0 e) (fun k1 m l => ?_) (fun g m e1 e2 o P => lw_24 s1 s2 s3 hi g m e1 e2 o (by omega) (fun h9 => absurd h9 (by omega)))
      obtain ⟨m0, m66, ⟨A, m67, lA, pA⟩, ⟨B, m71, lB, pB⟩, hm, hms, ⟨Wd, hw⟩⟩ := id m
      have e2 := fun P => c_Mo_lookup (scr := scr) (P := P) m0 hm hO hcl r2 r3
      simp only [if_neg h2] at e2
      exact RS_65 m e2
  · simp only [if_neg h1] at e
    refine ST_ex (rv := vI 0) hj (CS_x e hj.1) (fun e => w_lookup_10 x0 e) (fun k1 m l => ?_) (fun g m e1 e2 o P => lw_24 s1 s2 s3 hi g m e1 e2 o (by omega) (fun h9 => absurd h9 (by omega)))
    obtain ⟨m0, m66, ⟨A, m67, lA, pA⟩, ⟨B, m71, lB, pB⟩, hm, hms, ⟨Wd, hw⟩⟩ := id m
    exact RS_65 m (fun P => c_Mo_lookupE m0 hO r1 (by rw [← hc.1]; omega))
theorem Jc_fL {h' : Hp} {es' : List Nat} {cs' : List cdT} (hj : Jc h T C S cs wr) (hl : LI h' es') (hc : CI h' es' cs') (f : frL h h') : Jc h' T C S cs' wr := by
  have lo : ∀ {a : Nat} {c : AC}, a ≠ 5 → gt h a = some c → (∀ xs, c ≠ cQ 0 xs) → gt h' a = some c := fun h3 h4 h5 => frL_keep f h4 h3 h5
  obtain ⟨x0, x1, x3, x6, _, hs, ⟨⟨B, b1⟩, ⟨K, b2⟩⟩, ⟨O, x47⟩⟩ := hj
  obtain ⟨s1, ⟨G, L, Wd, ⟨g0, g1, g3, g4, g6, g7, g8⟩, s3⟩, ⟨F, s4⟩, ⟨x, s5⟩, ⟨y, s6⟩, ⟨z, s7⟩⟩ := hs
  have nr : ∀ (cap : Nat) (X : List Int) (xs : List (Option Nat)), rW cap X ≠ cQ 0 xs := fun _ _ _ h9 => by cases h9
  obtain ⟨⟨ns, nj, v0⟩, ⟨O0, v1⟩, ⟨W0, v3⟩, ⟨P0, v5⟩, ⟨D0, v7⟩, ⟨Ln, v9⟩⟩ := g8
  exact ⟨lo (by omega) x0 (fun _ h9 => by cases h9), lo (by omega) x1 (nr _ _), lo (by omega) x3 (nr _ _), lo (by omega) x6 (nr _ _), ⟨es', hl, hc⟩, ⟨QI_frL s1 f, ⟨G, L, Wd, ⟨lo (by omega) g0 (fun _ h9 => by cases h9), lo (by omega) g1 (nr _ _), lo (by omega) g3 (fun _ h9 => by cases h9), lo (by omega) g4 (nr _ _), lo (by omega) g6 (nr _ _), g7, ⟨⟨ns, nj, lo (by omega) v0 (fun _ h9 => by cases h9)⟩, ⟨O0, lo (by omega) v1 (nr _ _)⟩, ⟨W0, lo (by omega) v3 (nr _ _)⟩, ⟨P0, lo (by omega) v5 (nr _ _)⟩, ⟨D0, lo (by omega) v7 (nr _ _)⟩, ⟨Ln, lo (by omega) v9 (nr _ _)⟩⟩⟩, s3⟩, ⟨F, lo (by omega) s4 (nr _ _)⟩, ⟨x, lo (by omega) s5 (nr _ _)⟩, ⟨y, lo (by omega) s6 (nr _ _)⟩, ⟨z, lo (by omega) s7 (nr _ _)⟩⟩, ⟨⟨B, lo (by omega) b1 (nr _ _)⟩, ⟨K, lo (by omega) b2 (nr _ _)⟩⟩, ⟨O, lo (by omega) x47 (nr _ _)⟩⟩
theorem op_14 (hj : J h T C S cs wr th) (hi : 0 ≤ i ∧ i < 1000000) : ST scr 36 i h := by
  obtain ⟨⟨x0, x1, x3, x6, ⟨es, hl, hc⟩, hsi, hbi, ⟨O, x47⟩⟩, jm, ⟨u0, o1⟩, _, st⟩ := id hj
  obtain ⟨⟨hT, hTr⟩, ⟨hC, hCr⟩, ⟨hS, hSr⟩, ⟨hn, hg⟩, hwr⟩ := id st
  have hn' : es.length ≤ 12 := by rw [hc.1]; exact hn
  have hO := csO_of ⟨hn, hg⟩
  obtain ⟨h', e, i1, f1, l1⟩ := c_Sh_forget (scr := scr) x0 hl hn'
  rw [hc.1] at e
  refine ST_A (th' := 0) hj (CS_of e (Jc_fL hj.1 i1 ⟨rfl, fun i hi => absurd hi (Nat.not_lt_zero _)⟩ f1 : Jc _ T C S [] wr) (FC_frL f1) l1 (by rw [f1.2.1]; exact Nat.le_succ _)) (fun k1 m l => ?_) (fun g m e1 e2 P => lw_14 hi g m x0 e1 e2) (⟨st.1, st.2.1, st.2.2.1, ⟨Nat.zero_le _, fun q hq => by cases hq⟩, hwr⟩)
  obtain ⟨m0, m66, ⟨A, m67, lA, pA⟩, ⟨B, m71, lB, pB⟩, hm, hms, ⟨Wd, hw⟩⟩ := id m
  have e2 := fun P => c_Mo_forget (scr := scr) (P := P) m0
  obtain ⟨K, la, wa, k1, k2, k3, k4, k5, k6, _⟩ := hm
  have m1 := Jm_65 m 0
  refine RS_of e2 (T := T) (C := C) (S := S) (cs := []) (wr := wr) (th := 0) ⟨gt_eq _ _ (gt_lt m0), (gt_ne _ _ (by omega)).trans m66, ⟨A, (gt_ne _ _ (by omega)).trans m67, lA, pA⟩, ⟨B, (gt_ne _ _ (by omega)).trans m71, lB, pB⟩, ⟨K, la, wa, (gt_ne _ _ (by omega)).trans k1, k2, (gt_ne _ _ (by omega)).trans k3, k4, (gt_ne _ _ (by omega)).trans k5, k6, fun i hi => absurd hi (Nat.not_lt_zero _)⟩, MS_lo hms (by omega), ⟨Wd, (gt_ne _ _ (by omega)).trans hw.1, hw.2⟩⟩ (FM_ut _ (FM_rf _) (by omega)) (by rw [ln_ut]; exact Nat.le_refl _) (Nat.le_refl _)
end
