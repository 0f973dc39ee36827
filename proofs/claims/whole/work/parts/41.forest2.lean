/-! the forest: joining the lightest, depths -/
section
variable {scr : List Int} {h : Hp} {P : Rs → Prop} {f c cap : Nat} {O W Pa D Ln C : List Int}
theorem ut_c2 (h : Hp) {a b1 : Nat} (x z y1 : AC) (n1 : a ≠ b1) : ut (ut (ut h a x) b1 y1) a z = ut (ut h a z) b1 y1 := by
  unfold ut
  dsimp only
  rw [List.set_comm _ _ (Ne.symm n1), List.set_set]
theorem ut_c3 (h : Hp) {a b1 b2 : Nat} (x z y1 y2 : AC) (n1 : a ≠ b1 ∧ a ≠ b2) : ut (ut (ut (ut h a x) b1 y1) b2 y2) a z = ut (ut (ut h a z) b1 y1) b2 y2 := by
  rw [← ut_c2 h x z y1 n1.1]
  unfold ut
  dsimp only
  rw [List.set_comm _ _ (Ne.symm n1.2)]
theorem ut_c4 (h : Hp) {a b1 b2 b3 : Nat} (x z y1 y2 y3 : AC) (n1 : a ≠ b1 ∧ a ≠ b2 ∧ a ≠ b3) : ut (ut (ut (ut (ut h a x) b1 y1) b2 y2) b3 y3) a z = ut (ut (ut (ut h a z) b1 y1) b2 y2) b3 y3 := by
  rw [← ut_c3 h x z y1 y2 ⟨n1.1, n1.2.1⟩]
  unfold ut
  dsimp only
  rw [List.set_comm _ _ (Ne.symm n1.2.2)]
theorem ut_c5 (h : Hp) {a b1 b2 b3 b4 : Nat} (x z y1 y2 y3 y4 : AC) (n1 : a ≠ b1 ∧ a ≠ b2 ∧ a ≠ b3 ∧ a ≠ b4) : ut (ut (ut (ut (ut (ut h a x) b1 y1) b2 y2) b3 y3) b4 y4) a z = ut (ut (ut (ut (ut h a z) b1 y1) b2 y2) b3 y3) b4 y4 := by
  rw [← ut_c4 h x z y1 y2 y3 ⟨n1.1, n1.2.1, n1.2.2.1⟩]
  unfold ut
  dsimp only
  rw [List.set_comm _ _ (Ne.symm n1.2.2.2)]
theorem ut_c6 (h : Hp) {a b1 b2 b3 b4 b5 : Nat} (x z y1 y2 y3 y4 y5 : AC) (n1 : a ≠ b1 ∧ a ≠ b2 ∧ a ≠ b3 ∧ a ≠ b4 ∧ a ≠ b5) : ut (ut (ut (ut (ut (ut (ut h a x) b1 y1) b2 y2) b3 y3) b4 y4) b5 y5) a z = ut (ut (ut (ut (ut (ut h a z) b1 y1) b2 y2) b3 y3) b4 y4) b5 y5 := by
  rw [← ut_c5 h x z y1 y2 y3 y4 ⟨n1.1, n1.2.1, n1.2.2.1, n1.2.2.2.1⟩]
  unfold ut
  dsimp only
  rw [List.set_comm _ _ (Ne.symm n1.2.2.2.2)]
/-- t trees of a round are taken: singles and joined ones taken, weight, parents -/
def jIn (n : Nat) (W : List Int) : Nat → Nat → Nat → Int → List Int → (Nat × Nat × Int × List Int)
  | 0, ns, nj, w, Pa => (ns, nj, w, Pa)
  | j + 1, ns, nj, w, Pa => if tkB n W ns nj then jIn n W j (ns + 1) nj (w + yat W ns) (Pa.set ns W.length) else jIn n W j ns (nj + 1) (w + yat W nj) (Pa.set nj W.length)
def jOut (n t : Nat) : Nat → Nat → Nat → List Int → List Int → (Nat × Nat × List Int × List Int)
  | 0, ns, nj, W, Pa => (ns, nj, W, Pa)
  | r + 1, ns, nj, W, Pa => jOut n t r (jIn n W t ns nj 0 Pa).1 (jIn n W t ns nj 0 Pa).2.1 (W ++ [(jIn n W t ns nj 0 Pa).2.2.1]) ((jIn n W t ns nj 0 Pa).2.2.2 ++ [-1])
/-- the weights that are left -/
def remW (n : Nat) (W : List Int) (ns nj : Nat) : List Int := (W.take n).drop ns ++ W.drop nj
/-- k trees are left, of weight T together with w -/
def jI (n : Nat) (W : List Int) (ns nj k : Nat) (w T : Int) : Prop := ns ≤ n ∧ n ≤ nj ∧ nj ≤ W.length ∧ (n - ns) + (W.length - nj) = k ∧ (∀ x ∈ W, 0 ≤ x ∧ x ≤ T) ∧ (remW n W ns nj).sum + w = T
theorem rem_s {n ns nj : Nat} {W : List Int} (h1 : ns < n) (h2 : n ≤ W.length) : (remW n W ns nj).sum = yat W ns + (remW n W (ns + 1) nj).sum := by
  unfold remW
  rw [drop_yat (xs := W.take n) (show ns < (W.take n).length by rw [List.length_take]; omega), List.cons_append, List.sum_cons]
  congr 1
  rw [yat_n, yat_n, List.getD_eq_getElem?_getD, List.getD_eq_getElem?_getD, List.getElem?_take, if_pos h1]
theorem rem_j {n ns nj : Nat} {W : List Int} (h2 : nj < W.length) : (remW n W ns nj).sum = yat W nj + (remW n W ns (nj + 1)).sum := by
  unfold remW
  rw [drop_yat h2, List.sum_append, List.sum_append, List.sum_cons]
  omega
theorem yat_mem {W : List Int} {k : Nat} (hk : k < W.length) : yat W k ∈ W := by
  rw [yat_n, List.getD_eq_getElem?_getD, List.getElem?_eq_getElem hk]
  exact List.getElem_mem hk
theorem jI_step {n ns nj k : Nat} {W : List Int} {w T : Int} (hi : jI n W ns nj (k + 1) w T) : (tkB n W ns nj → jI n W (ns + 1) nj k (w + yat W ns) T) ∧ (¬ tkB n W ns nj → jI n W ns (nj + 1) k (w + yat W nj) T ∧ nj < W.length) := by
  obtain ⟨h1, h2, h3, h4, h5, h6⟩ := hi
  constructor
  · rintro ⟨g1, g2⟩
    have := rem_s (nj := nj) g1 (Nat.le_trans h2 h3)
    exact ⟨g1, h2, h3, by omega, h5, by omega⟩
  · intro g
    have g3 : nj < W.length := by
      by_cases hs : ns < n
      · exact Decidable.byContradiction fun g4 => g ⟨hs, .inl (by omega)⟩
      · omega
    have := rem_j (n := n) (ns := ns) g3
    exact ⟨⟨h1, by omega, g3, by omega, h5, by omega⟩, g3⟩
theorem jI_rng {n ns nj k : Nat} {W : List Int} {w T : Int} (hi : jI n W ns nj k w T) (hT : T < 2147483648) : rng W := fun x hx => by
  have := hi.2.2.2.2.1 x hx
  omega
theorem sum_nn : ∀ {l : List Int}, (∀ x ∈ l, 0 ≤ x) → 0 ≤ l.sum
  | [], _ => Int.le_refl _
  | x :: t, hl => by
    rw [List.sum_cons]
    have h1 := hl x (.head _)
    have h2 := sum_nn (l := t) fun y hy => hl y (.tail _ hy)
    omega
theorem jI_w {n ns nj k : Nat} {W : List Int} {w T : Int} (hi : jI n W ns nj k w T) : w ≤ T := by
  have := hi.2.2.2.2.2
  have h2 : 0 ≤ (remW n W ns nj).sum := sum_nn fun x hx => by
    rcases List.mem_append.mp hx with h1 | h1
    · exact (hi.2.2.2.2.1 x (List.mem_of_mem_take (List.mem_of_mem_drop h1))).1
    · exact (hi.2.2.2.2.1 x (List.mem_of_mem_drop h1)).1
  omega
theorem jI_push {n ns nj k : Nat} {W : List Int} {w T : Int} (hi : jI n W ns nj k w T) (hw : 0 ≤ w) : jI n (W ++ [w]) ns nj (k + 1) 0 T := by
  have hw2 := jI_w hi
  obtain ⟨h1, h2, h3, h4, h5, h6⟩ := hi
  refine ⟨h1, h2, by rw [List.length_append]; omega, by rw [List.length_append]; show _ + (W.length + 1 - nj) = _; omega, fun x hx => ?_, ?_⟩
  · rcases List.mem_append.mp hx with hx | hx
    · exact h5 x hx
    · rw [List.mem_singleton.mp hx]
      exact ⟨hw, hw2⟩
  · unfold remW at h6 ⊢
    rw [List.take_append_of_le_length (by omega), List.drop_append_of_le_length h3, ← List.append_assoc, List.sum_append, List.sum_singleton]
    omega
/-- what a round's taking keeps -/
theorem jIn_I {n : Nat} {W : List Int} {T : Int} : ∀ (j k ns nj : Nat) (w : Int) (Pa : List Int), jI n W ns nj (k + j) w T → 0 ≤ w → jI n W (jIn n W j ns nj w Pa).1 (jIn n W j ns nj w Pa).2.1 k (jIn n W j ns nj w Pa).2.2.1 T ∧ 0 ≤ (jIn n W j ns nj w Pa).2.2.1 ∧ (jIn n W j ns nj w Pa).2.2.2.length = Pa.length
  | 0, k, ns, nj, w, Pa, hi, hw => ⟨hi, hw, rfl⟩
  | j + 1, k, ns, nj, w, Pa, hi, hw => by
    have hs := jI_step (k := k + j) hi
    unfold jIn
    by_cases ht : tkB n W ns nj
    · rw [if_pos ht]
      have h1 := hs.1 ht
      have h2 := (hi.2.2.2.2.1 _ (yat_mem (show ns < W.length from Nat.lt_of_lt_of_le ht.1 (Nat.le_trans hi.2.1 hi.2.2.1)))).1
      have := jIn_I j k (ns + 1) nj (w + yat W ns) (Pa.set ns W.length) h1 (by omega)
      rw [List.length_set] at this
      exact this
    · rw [if_neg ht]
      have h1 := hs.2 ht
      have h2 := (hi.2.2.2.2.1 _ (yat_mem h1.2)).1
      have := jIn_I j k ns (nj + 1) (w + yat W nj) (Pa.set nj W.length) h1.1 (by omega)
      rw [List.length_set] at this
      exact this
theorem jOut_len {n t : Nat} : ∀ (r ns nj : Nat) (W Pa : List Int), (jOut n t r ns nj W Pa).2.2.1.length = W.length + r
  | 0, _, _, W, _ => rfl
  | r + 1, ns, nj, W, Pa => by
    unfold jOut
    rw [jOut_len r]
    simp
    omega
/-- a round: t trees taken -/
theorem Forest_jIn {c0 : AC} {tb : AV} {T : Int} {n t : Nat} {trees : Int} (hf : gt h f = some c0) (hO : gt h (f + 1) = some (rW 120 O)) (hn : O.length = n) (hn2 : n ≤ 120) (hw : W.length < 240) (hW : gt h (f + 3) = some (rW 240 W)) (hP : gt h (f + 5) = some (rW 240 Pa)) (hT : T < 2147483648) (ht : t < 100) : ∀ (j ns nj i k : Nat) (w : Int) (Pa : List Int) (u : Option AV), i + j = t → Pa.length = W.length → jI n W ns nj (k + j) w T → 0 ≤ w → ∃ u', Py scr 37 (zprog 37 5) [some (vR (some f)), some (vR (some c)), some tb, some (vI t), some (vI trees), some (vI w), some (vI i), u] [] (ut (ut h f (fK f ns nj)) (f + 5) (rW 240 Pa)) P = Py scr 37 (zprog 37 6) [some (vR (some f)), some (vR (some c)), some tb, some (vI t), some (vI trees), some (vI (jIn n W j ns nj w Pa).2.2.1), some (vI t), u'] [] (ut (ut h f (fK f (jIn n W j ns nj w Pa).1 (jIn n W j ns nj w Pa).2.1)) (f + 5) (rW 240 (jIn n W j ns nj w Pa).2.2.2)) P
  | 0, ns, nj, i, k, w, Pa, u, hi, hl, hI, hw0 => ⟨u, by
    rw [pg_Forest_joinLightest_5]
    simp (disch := first | omega | (simp only [ln_ap, ln_ut, ln_xc]; done) | (simp only [ln_ap, ln_ut, ln_xc]; omega)) only [py_iload0, py_iload1, py_iload2, py_iload3, py_iload4, py_iload5, py_iload6, py_iload7, py_iload8, py_iload9, py_iload10, py_iload11, py_iload12, py_lload0, py_lload1, py_lload2, py_lload3, py_lload4, py_lload5, py_lload7, py_lload9, py_fload7, py_dload7, py_aloadR0, py_aloadM0, py_aloadR1, py_aloadM1, py_aloadR2, py_aloadM2, py_aloadR3, py_aloadM3, py_aloadR4, py_aloadM4, py_aloadR5, py_aloadM5, py_aloadR6, py_aloadM6, py_aloadR7, py_aloadM7, py_aloadR8, py_aloadM8, py_aloadR10, py_aloadM10, py_aloadR11, py_aloadM11, py_istore1N, py_istore1I, py_istore1R, py_istore1M, py_istore2N, py_istore2I, py_istore2R, py_istore2M, py_istore3N, py_istore3I, py_istore3R, py_istore3M, py_istore4N, py_istore4I, py_istore4R, py_istore4M, py_istore5N, py_istore5I, py_istore5R, py_istore5M, py_istore6N, py_istore6I, py_istore6R, py_istore6M, py_istore7N, py_istore7I, py_istore7R, py_istore7M, py_istore8N, py_istore8I, py_istore8R, py_istore8M, py_istore9N, py_istore9I, py_istore9R, py_istore9M, py_istore10N, py_istore10I, py_istore10R, py_istore10M, py_istore11N, py_istore11I, py_istore11R, py_istore11M, py_istore12N, py_istore12I, py_istore12R, py_istore12M, py_lstore1N, py_lstore1I, py_lstore1R, py_lstore1M, py_lstore2N, py_lstore2I, py_lstore2R, py_lstore2M, py_lstore3N, py_lstore3I, py_lstore3R, py_lstore3M, py_lstore4N, py_lstore4I, py_lstore4R, py_lstore4M, py_lstore5N, py_lstore5I, py_lstore5R, py_lstore5M, py_lstore7N, py_lstore7I, py_lstore7R, py_lstore7M, py_lstore9N, py_lstore9I, py_lstore9R, py_lstore9M, py_fstore7N, py_fstore7I, py_fstore7R, py_fstore7M, py_dstore7N, py_dstore7I, py_dstore7R, py_dstore7M, py_astoreR1N, py_astoreR1I, py_astoreR1R, py_astoreR1M, py_astoreM1N, py_astoreM1I, py_astoreM1R, py_astoreM1M, py_astoreR2N, py_astoreR2I, py_astoreR2R, py_astoreR2M, py_astoreM2N, py_astoreM2I, py_astoreM2R, py_astoreM2M, py_astoreR3N, py_astoreR3I, py_astoreR3R, py_astoreR3M, py_astoreM3N, py_astoreM3I, py_astoreM3R, py_astoreM3M, py_astoreR4N, py_astoreR4I, py_astoreR4R, py_astoreR4M, py_astoreM4N, py_astoreM4I, py_astoreM4R, py_astoreM4M, py_astoreR5N, py_astoreR5I, py_astoreR5R, py_astoreR5M, py_astoreM5N, py_astoreM5I, py_astoreM5R, py_astoreM5M, py_astoreR6N, py_astoreR6I, py_astoreR6R, py_astoreR6M, py_astoreM6N, py_astoreM6I, py_astoreM6R, py_astoreM6M, py_astoreR7N, py_astoreR7I, py_astoreR7R, py_astoreR7M, py_astoreM7N, py_astoreM7I, py_astoreM7R, py_astoreM7M, py_astoreR8N, py_astoreR8I, py_astoreR8R, py_astoreR8M, py_astoreM8N, py_astoreM8I, py_astoreM8R, py_astoreM8M, py_astoreR10N, py_astoreR10I, py_astoreR10R, py_astoreR10M, py_astoreM10N, py_astoreM10I, py_astoreM10R, py_astoreM10M, py_astoreR11N, py_astoreR11I, py_astoreR11R, py_astoreR11M, py_astoreM11N, py_astoreM11I, py_astoreM11R, py_astoreM11M, py_iinc1N, py_iinc1I, py_iinc1R, py_iinc1M, py_iinc2N, py_iinc2I, py_iinc2R, py_iinc2M, py_iinc3N, py_iinc3I, py_iinc3R, py_iinc3M, py_iinc4N, py_iinc4I, py_iinc4R, py_iinc4M, py_iinc5N, py_iinc5I, py_iinc5R, py_iinc5M, py_iinc6N, py_iinc6I, py_iinc6R, py_iinc6M, py_iinc7N, py_iinc7I, py_iinc7R, py_iinc7M, py_iinc8N, py_iinc8I, py_iinc8R, py_iinc8M, py_iinc9N, py_iinc9I, py_iinc9R, py_iinc9M, py_iinc10N, py_iinc10I, py_iinc10R, py_iinc10M, py_iinc11N, py_iinc11I, py_iinc11R, py_iinc11M, py_iinc12N, py_iinc12I, py_iinc12R, py_iinc12M, py_iconst, py_null, py_ldc, py_ldcL0, py_ldcL1, py_fconst, py_dconst, py_dupI, py_dupR, py_popI, py_popR, py_dupx1I, py_dupx1R, py_dup2, py_iadd, py_isub, py_imul, py_ladd, py_lmul, py_idiv, py_irem, py_ldiv, py_lrem, py_iand, py_ixor, py_ishl, py_ishr, py_lcmp, py_i2l, py_l2i, py_i2c, py_i2f, py_i2d, py_f2d, py_fdiv, py_ddiv, py_dcmp, py_fcmp, py_goto, py_nop, py_acmp11, py_acmp1R, py_iaload, py_ialoadM, py_caload, py_baload, py_laload, py_daload, py_aaload, py_iastore, py_castore, py_bastore, py_lastore, py_dastore, py_aastoreN, py_aastoreS, py_alen, py_alen0, py_alen1, py_getstatic, py_new0, py_new1, py_new2, py_new3, py_new4, py_new5, py_new6, py_new7, py_throw, py_getfield, py_putI, py_putR, py_putM, py_checkcast, py_ireturn, py_ireturn1, py_ireturn2, py_lreturn, py_freturn, py_dreturn, py_areturn, py_return, zaft_n, zaft_s, zaft_x, zaft_x1, zaft_x2, py_rsize, py_rat, py_rput, py_radd, py_rfill, py_rinit, py_max, py_min, py_oinit, py_if_eq_t, py_ic_eq_t, py_if_eq_f, py_ic_eq_f, py_if_ne_t, py_ic_ne_t, py_if_ne_f, py_ic_ne_f, py_if_lt_t, py_ic_lt_t, py_if_lt_f, py_ic_lt_f, py_if_ge_t, py_ic_ge_t, py_if_ge_f, py_ic_ge_f, py_if_gt_t, py_ic_gt_t, py_if_gt_f, py_ic_gt_f, py_if_le_t, py_ic_le_t, py_if_le_f, py_ic_le_f, py_putC, py_newarray, py_anewarray, yv_some, yw_some, yF_r, yF_o, yG_o, yP_o, yP_r, yC_r, yC_o, zisc_o, yrw_rW, yr1_s, yr2_s, yr3_s, yr4_s, yr8_s, yfr_o, yI_s, yJ_s, yL_s, yM_s, yD_s, yE_s, yQ_s, yUn_s, yN_I, yN_L, yN_D, yN_Q, ln_ut, ln_ap, ln_xc, gt_xc, gt_ne, gt_eq, gt_al, gt_ae, Option.map_some, List.getElem?_cons_zero, List.getElem?_cons_succ, List.set_cons_zero, List.set_cons_succ, List.length_cons, List.length_nil, true_and, and_true, if_true, Nat.reduceAdd, Nat.reduceLeDiff, Nat.reduceLT, ut_same, Int.toNat_zero, List.take_zero, List.drop_zero, pg_Forest_joinLightest_0, pg_Forest_joinLightest_1, pg_Forest_joinLightest_2, pg_Forest_joinLightest_3, pg_Forest_joinLightest_7, jIn]
    rw [show i = t by omega]⟩
  | j + 1, ns, nj, i, k, w, Pa, u, hi, hl, hI, hw0 => by
    have hfl := gt_lt hf
    have hpl := gt_lt hP
    have hr := jI_rng hI hT
    have hs := jI_step (k := k + j) hI
    have hb := hI.2.2.1
    have hb2 := hI.1
    by_cases hk : tkB n W ns nj
    · have h2 := (hI.2.2.2.2.1 _ (yat_mem (show ns < W.length from Nat.lt_of_lt_of_le hk.1 (Nat.le_trans hI.2.1 hI.2.2.1)))).1
      obtain ⟨u', ih⟩ := Forest_jIn hf hO hn hn2 hw hW hP hT ht j (ns + 1) nj (i + 1) k (w + yat W ns) (Pa.set ns W.length) (some (vI ns)) (by omega) (by rw [List.length_set]; exact hl) (hs.1 hk) (by omega)
      refine ⟨u', ?_⟩
      unfold jIn
      rw [if_pos hk, pg_Forest_joinLightest_5]
      have hk' := hk
      rw [← hn] at hk'
      simp (disch := first | omega | (simp only [ln_ap, ln_ut, ln_xc]; done) | (simp only [ln_ap, ln_ut, ln_xc]; omega) | assumption | ((repeat (first | (refine (gt_ne _ _ ?_).trans ?_; · omega) | (refine (gt_al _ _ ?_).trans ?_; · (first | omega | (simp only [ln_ap, ln_ut, ln_xc]; done) | (simp only [ln_ap, ln_ut, ln_xc]; omega))))); first | assumption | (refine gt_eq _ _ ?_; (first | omega | (simp only [ln_ap, ln_ut, ln_xc]; done) | (simp only [ln_ap, ln_ut, ln_xc]; omega))) | (refine gt_ae _ _ ?_; (first | omega | (simp only [ln_ap, ln_ut, ln_xc]; done) | (simp only [ln_ap, ln_ut, ln_xc]; omega))))) only [py_iload0, py_iload1, py_iload2, py_iload3, py_iload4, py_iload5, py_iload6, py_iload7, py_iload8, py_iload9, py_iload10, py_iload11, py_iload12, py_lload0, py_lload1, py_lload2, py_lload3, py_lload4, py_lload5, py_lload7, py_lload9, py_fload7, py_dload7, py_aloadR0, py_aloadM0, py_aloadR1, py_aloadM1, py_aloadR2, py_aloadM2, py_aloadR3, py_aloadM3, py_aloadR4, py_aloadM4, py_aloadR5, py_aloadM5, py_aloadR6, py_aloadM6, py_aloadR7, py_aloadM7, py_aloadR8, py_aloadM8, py_aloadR10, py_aloadM10, py_aloadR11, py_aloadM11, py_istore1N, py_istore1I, py_istore1R, py_istore1M, py_istore2N, py_istore2I, py_istore2R, py_istore2M, py_istore3N, py_istore3I, py_istore3R, py_istore3M, py_istore4N, py_istore4I, py_istore4R, py_istore4M, py_istore5N, py_istore5I, py_istore5R, py_istore5M, py_istore6N, py_istore6I, py_istore6R, py_istore6M, py_istore7N, py_istore7I, py_istore7R, py_istore7M, py_istore8N, py_istore8I, py_istore8R, py_istore8M, py_istore9N, py_istore9I, py_istore9R, py_istore9M, py_istore10N, py_istore10I, py_istore10R, py_istore10M, py_istore11N, py_istore11I, py_istore11R, py_istore11M, py_istore12N, py_istore12I, py_istore12R, py_istore12M, py_lstore1N, py_lstore1I, py_lstore1R, py_lstore1M, py_lstore2N, py_lstore2I, py_lstore2R, py_lstore2M, py_lstore3N, py_lstore3I, py_lstore3R, py_lstore3M, py_lstore4N, py_lstore4I, py_lstore4R, py_lstore4M, py_lstore5N, py_lstore5I, py_lstore5R, py_lstore5M, py_lstore7N, py_lstore7I, py_lstore7R, py_lstore7M, py_lstore9N, py_lstore9I, py_lstore9R, py_lstore9M, py_fstore7N, py_fstore7I, py_fstore7R, py_fstore7M, py_dstore7N, py_dstore7I, py_dstore7R, py_dstore7M, py_astoreR1N, py_astoreR1I, py_astoreR1R, py_astoreR1M, py_astoreM1N, py_astoreM1I, py_astoreM1R, py_astoreM1M, py_astoreR2N, py_astoreR2I, py_astoreR2R, py_astoreR2M, py_astoreM2N, py_astoreM2I, py_astoreM2R, py_astoreM2M, py_astoreR3N, py_astoreR3I, py_astoreR3R, py_astoreR3M, py_astoreM3N, py_astoreM3I, py_astoreM3R, py_astoreM3M, py_astoreR4N, py_astoreR4I, py_astoreR4R, py_astoreR4M, py_astoreM4N, py_astoreM4I, py_astoreM4R, py_astoreM4M, py_astoreR5N, py_astoreR5I, py_astoreR5R, py_astoreR5M, py_astoreM5N, py_astoreM5I, py_astoreM5R, py_astoreM5M, py_astoreR6N, py_astoreR6I, py_astoreR6R, py_astoreR6M, py_astoreM6N, py_astoreM6I, py_astoreM6R, py_astoreM6M, py_astoreR7N, py_astoreR7I, py_astoreR7R, py_astoreR7M, py_astoreM7N, py_astoreM7I, py_astoreM7R, py_astoreM7M, py_astoreR8N, py_astoreR8I, py_astoreR8R, py_astoreR8M, py_astoreM8N, py_astoreM8I, py_astoreM8R, py_astoreM8M, py_astoreR10N, py_astoreR10I, py_astoreR10R, py_astoreR10M, py_astoreM10N, py_astoreM10I, py_astoreM10R, py_astoreM10M, py_astoreR11N, py_astoreR11I, py_astoreR11R, py_astoreR11M, py_astoreM11N, py_astoreM11I, py_astoreM11R, py_astoreM11M, py_iinc1N, py_iinc1I, py_iinc1R, py_iinc1M, py_iinc2N, py_iinc2I, py_iinc2R, py_iinc2M, py_iinc3N, py_iinc3I, py_iinc3R, py_iinc3M, py_iinc4N, py_iinc4I, py_iinc4R, py_iinc4M, py_iinc5N, py_iinc5I, py_iinc5R, py_iinc5M, py_iinc6N, py_iinc6I, py_iinc6R, py_iinc6M, py_iinc7N, py_iinc7I, py_iinc7R, py_iinc7M, py_iinc8N, py_iinc8I, py_iinc8R, py_iinc8M, py_iinc9N, py_iinc9I, py_iinc9R, py_iinc9M, py_iinc10N, py_iinc10I, py_iinc10R, py_iinc10M, py_iinc11N, py_iinc11I, py_iinc11R, py_iinc11M, py_iinc12N, py_iinc12I, py_iinc12R, py_iinc12M, py_iconst, py_null, py_ldc, py_ldcL0, py_ldcL1, py_fconst, py_dconst, py_dupI, py_dupR, py_popI, py_popR, py_dupx1I, py_dupx1R, py_dup2, py_iadd, py_isub, py_imul, py_ladd, py_lmul, py_idiv, py_irem, py_ldiv, py_lrem, py_iand, py_ixor, py_ishl, py_ishr, py_lcmp, py_i2l, py_l2i, py_i2c, py_i2f, py_i2d, py_f2d, py_fdiv, py_ddiv, py_dcmp, py_fcmp, py_goto, py_nop, py_acmp11, py_acmp1R, py_iaload, py_ialoadM, py_caload, py_baload, py_laload, py_daload, py_aaload, py_iastore, py_castore, py_bastore, py_lastore, py_dastore, py_aastoreN, py_aastoreS, py_alen, py_alen0, py_alen1, py_getstatic, py_new0, py_new1, py_new2, py_new3, py_new4, py_new5, py_new6, py_new7, py_throw, py_getfield, py_putI, py_putR, py_putM, py_checkcast, py_ireturn, py_ireturn1, py_ireturn2, py_lreturn, py_freturn, py_dreturn, py_areturn, py_return, zaft_n, zaft_s, zaft_x, zaft_x1, zaft_x2, py_rsize, py_rat, py_rput, py_radd, py_rfill, py_rinit, py_max, py_min, py_oinit, py_if_eq_t, py_ic_eq_t, py_if_eq_f, py_ic_eq_f, py_if_ne_t, py_ic_ne_t, py_if_ne_f, py_ic_ne_f, py_if_lt_t, py_ic_lt_t, py_if_lt_f, py_ic_lt_f, py_if_ge_t, py_ic_ge_t, py_if_ge_f, py_ic_ge_f, py_if_gt_t, py_ic_gt_t, py_if_gt_f, py_ic_gt_f, py_if_le_t, py_ic_le_t, py_if_le_f, py_ic_le_f, py_putC, py_newarray, py_anewarray, yv_some, yw_some, yF_r, yF_o, yG_o, yP_o, yP_r, yC_r, yC_o, zisc_o, yrw_rW, yr1_s, yr2_s, yr3_s, yr4_s, yr8_s, yfr_o, yI_s, yJ_s, yL_s, yM_s, yD_s, yE_s, yQ_s, yUn_s, yN_I, yN_L, yN_D, yN_Q, ln_ut, ln_ap, ln_xc, gt_xc, gt_ne, gt_eq, gt_al, gt_ae, Option.map_some, List.getElem?_cons_zero, List.getElem?_cons_succ, List.set_cons_zero, List.set_cons_succ, List.length_cons, List.length_nil, true_and, and_true, if_true, Nat.reduceAdd, Nat.reduceLeDiff, Nat.reduceLT, ut_same, Int.toNat_zero, List.take_zero, List.drop_zero, ca_Forest_takeLightest, pg_Forest_joinLightest_0, pg_Forest_joinLightest_1, pg_Forest_joinLightest_2, pg_Forest_joinLightest_3, pg_Forest_joinLightest_7, c_Forest_takeLightest, if_pos hk', hO, hW, yput_n, ut_c2, ut_c3, ut_c4, ut_c5, ut_c6]
      exact ih
    · have h1 := hs.2 hk
      have h2 := (hI.2.2.2.2.1 _ (yat_mem h1.2)).1
      obtain ⟨u', ih⟩ := Forest_jIn hf hO hn hn2 hw hW hP hT ht j ns (nj + 1) (i + 1) k (w + yat W nj) (Pa.set nj W.length) (some (vI nj)) (by omega) (by rw [List.length_set]; exact hl) h1.1 (by omega)
      refine ⟨u', ?_⟩
      unfold jIn
      rw [if_neg hk, pg_Forest_joinLightest_5]
      have hk' := hk
      rw [← hn] at hk'
      simp (disch := first | omega | (simp only [ln_ap, ln_ut, ln_xc]; done) | (simp only [ln_ap, ln_ut, ln_xc]; omega) | assumption | ((repeat (first | (refine (gt_ne _ _ ?_).trans ?_; · omega) | (refine (gt_al _ _ ?_).trans ?_; · (first | omega | (simp only [ln_ap, ln_ut, ln_xc]; done) | (simp only [ln_ap, ln_ut, ln_xc]; omega))))); first | assumption | (refine gt_eq _ _ ?_; (first | omega | (simp only [ln_ap, ln_ut, ln_xc]; done) | (simp only [ln_ap, ln_ut, ln_xc]; omega))) | (refine gt_ae _ _ ?_; (first | omega | (simp only [ln_ap, ln_ut, ln_xc]; done) | (simp only [ln_ap, ln_ut, ln_xc]; omega))))) only [py_iload0, py_iload1, py_iload2, py_iload3, py_iload4, py_iload5, py_iload6, py_iload7, py_iload8, py_iload9, py_iload10, py_iload11, py_iload12, py_lload0, py_lload1, py_lload2, py_lload3, py_lload4, py_lload5, py_lload7, py_lload9, py_fload7, py_dload7, py_aloadR0, py_aloadM0, py_aloadR1, py_aloadM1, py_aloadR2, py_aloadM2, py_aloadR3, py_aloadM3, py_aloadR4, py_aloadM4, py_aloadR5, py_aloadM5, py_aloadR6, py_aloadM6, py_aloadR7, py_aloadM7, py_aloadR8, py_aloadM8, py_aloadR10, py_aloadM10, py_aloadR11, py_aloadM11, py_istore1N, py_istore1I, py_istore1R, py_istore1M, py_istore2N, py_istore2I, py_istore2R, py_istore2M, py_istore3N, py_istore3I, py_istore3R, py_istore3M, py_istore4N, py_istore4I, py_istore4R, py_istore4M, py_istore5N, py_istore5I, py_istore5R, py_istore5M, py_istore6N, py_istore6I, py_istore6R, py_istore6M, py_istore7N, py_istore7I, py_istore7R, py_istore7M, py_istore8N, py_istore8I, py_istore8R, py_istore8M, py_istore9N, py_istore9I, py_istore9R, py_istore9M, py_istore10N, py_istore10I, py_istore10R, py_istore10M, py_istore11N, py_istore11I, py_istore11R, py_istore11M, py_istore12N, py_istore12I, py_istore12R, py_istore12M, py_lstore1N, py_lstore1I, py_lstore1R, py_lstore1M, py_lstore2N, py_lstore2I, py_lstore2R, py_lstore2M, py_lstore3N, py_lstore3I, py_lstore3R, py_lstore3M, py_lstore4N, py_lstore4I, py_lstore4R, py_lstore4M, py_lstore5N, py_lstore5I, py_lstore5R, py_lstore5M, py_lstore7N, py_lstore7I, py_lstore7R, py_lstore7M, py_lstore9N, py_lstore9I, py_lstore9R, py_lstore9M, py_fstore7N, py_fstore7I, py_fstore7R, py_fstore7M, py_dstore7N, py_dstore7I, py_dstore7R, py_dstore7M, py_astoreR1N, py_astoreR1I, py_astoreR1R, py_astoreR1M, py_astoreM1N, py_astoreM1I, py_astoreM1R, py_astoreM1M, py_astoreR2N, py_astoreR2I, py_astoreR2R, py_astoreR2M, py_astoreM2N, py_astoreM2I, py_astoreM2R, py_astoreM2M, py_astoreR3N, py_astoreR3I, py_astoreR3R, py_astoreR3M, py_astoreM3N, py_astoreM3I, py_astoreM3R, py_astoreM3M, py_astoreR4N, py_astoreR4I, py_astoreR4R, py_astoreR4M, py_astoreM4N, py_astoreM4I, py_astoreM4R, py_astoreM4M, py_astoreR5N, py_astoreR5I, py_astoreR5R, py_astoreR5M, py_astoreM5N, py_astoreM5I, py_astoreM5R, py_astoreM5M, py_astoreR6N, py_astoreR6I, py_astoreR6R, py_astoreR6M, py_astoreM6N, py_astoreM6I, py_astoreM6R, py_astoreM6M, py_astoreR7N, py_astoreR7I, py_astoreR7R, py_astoreR7M, py_astoreM7N, py_astoreM7I, py_astoreM7R, py_astoreM7M, py_astoreR8N, py_astoreR8I, py_astoreR8R, py_astoreR8M, py_astoreM8N, py_astoreM8I, py_astoreM8R, py_astoreM8M, py_astoreR10N, py_astoreR10I, py_astoreR10R, py_astoreR10M, py_astoreM10N, py_astoreM10I, py_astoreM10R, py_astoreM10M, py_astoreR11N, py_astoreR11I, py_astoreR11R, py_astoreR11M, py_astoreM11N, py_astoreM11I, py_astoreM11R, py_astoreM11M, py_iinc1N, py_iinc1I, py_iinc1R, py_iinc1M, py_iinc2N, py_iinc2I, py_iinc2R, py_iinc2M, py_iinc3N, py_iinc3I, py_iinc3R, py_iinc3M, py_iinc4N, py_iinc4I, py_iinc4R, py_iinc4M, py_iinc5N, py_iinc5I, py_iinc5R, py_iinc5M, py_iinc6N, py_iinc6I, py_iinc6R, py_iinc6M, py_iinc7N, py_iinc7I, py_iinc7R, py_iinc7M, py_iinc8N, py_iinc8I, py_iinc8R, py_iinc8M, py_iinc9N, py_iinc9I, py_iinc9R, py_iinc9M, py_iinc10N, py_iinc10I, py_iinc10R, py_iinc10M, py_iinc11N, py_iinc11I, py_iinc11R, py_iinc11M, py_iinc12N, py_iinc12I, py_iinc12R, py_iinc12M, py_iconst, py_null, py_ldc, py_ldcL0, py_ldcL1, py_fconst, py_dconst, py_dupI, py_dupR, py_popI, py_popR, py_dupx1I, py_dupx1R, py_dup2, py_iadd, py_isub, py_imul, py_ladd, py_lmul, py_idiv, py_irem, py_ldiv, py_lrem, py_iand, py_ixor, py_ishl, py_ishr, py_lcmp, py_i2l, py_l2i, py_i2c, py_i2f, py_i2d, py_f2d, py_fdiv, py_ddiv, py_dcmp, py_fcmp, py_goto, py_nop, py_acmp11, py_acmp1R, py_iaload, py_ialoadM, py_caload, py_baload, py_laload, py_daload, py_aaload, py_iastore, py_castore, py_bastore, py_lastore, py_dastore, py_aastoreN, py_aastoreS, py_alen, py_alen0, py_alen1, py_getstatic, py_new0, py_new1, py_new2, py_new3, py_new4, py_new5, py_new6, py_new7, py_throw, py_getfield, py_putI, py_putR, py_putM, py_checkcast, py_ireturn, py_ireturn1, py_ireturn2, py_lreturn, py_freturn, py_dreturn, py_areturn, py_return, zaft_n, zaft_s, zaft_x, zaft_x1, zaft_x2, py_rsize, py_rat, py_rput, py_radd, py_rfill, py_rinit, py_max, py_min, py_oinit, py_if_eq_t, py_ic_eq_t, py_if_eq_f, py_ic_eq_f, py_if_ne_t, py_ic_ne_t, py_if_ne_f, py_ic_ne_f, py_if_lt_t, py_ic_lt_t, py_if_lt_f, py_ic_lt_f, py_if_ge_t, py_ic_ge_t, py_if_ge_f, py_ic_ge_f, py_if_gt_t, py_ic_gt_t, py_if_gt_f, py_ic_gt_f, py_if_le_t, py_ic_le_t, py_if_le_f, py_ic_le_f, py_putC, py_newarray, py_anewarray, yv_some, yw_some, yF_r, yF_o, yG_o, yP_o, yP_r, yC_r, yC_o, zisc_o, yrw_rW, yr1_s, yr2_s, yr3_s, yr4_s, yr8_s, yfr_o, yI_s, yJ_s, yL_s, yM_s, yD_s, yE_s, yQ_s, yUn_s, yN_I, yN_L, yN_D, yN_Q, ln_ut, ln_ap, ln_xc, gt_xc, gt_ne, gt_eq, gt_al, gt_ae, Option.map_some, List.getElem?_cons_zero, List.getElem?_cons_succ, List.set_cons_zero, List.set_cons_succ, List.length_cons, List.length_nil, true_and, and_true, if_true, Nat.reduceAdd, Nat.reduceLeDiff, Nat.reduceLT, ut_same, Int.toNat_zero, List.take_zero, List.drop_zero, ca_Forest_takeLightest, pg_Forest_joinLightest_0, pg_Forest_joinLightest_1, pg_Forest_joinLightest_2, pg_Forest_joinLightest_3, pg_Forest_joinLightest_7, c_Forest_takeLightest, if_neg hk', hO, hW, yput_n, ut_c2, ut_c3, ut_c4, ut_c5, ut_c6]
      exact ih
end
