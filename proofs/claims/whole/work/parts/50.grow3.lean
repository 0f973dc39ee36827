/-! growing codes: texts laid and gathered -/
section
variable {scr : List Int} {g : Nat}
/-- counts that grow -/
def gOk (G : List Int) : Prop := G.length = 27 ∧ (∀ x ∈ G, 0 ≤ x) ∧ G.sum ≤ 40 ∧ 0 < yat G 26
/-- words of the growing code -/
def wrdG (W : List Int) : Prop := wrdR W ∧ W.length = 27
/-- what is owed of the codes of growing counts: lengths to 20, words that fit -/
def gHyp : Prop := ∀ G, gOk G → (∀ x ∈ hlL 0 G 27, -1 ≤ x ∧ x ≤ 20) ∧ ∀ Wd, wrdG Wd → wrdG (lbW 2 (hlL 0 G 27) Wd)
theorem set_sum : ∀ (l : List Int) (k : Nat) (v : Int), k < l.length → (l.set k v).sum = l.sum - l.getD k 0 + v
  | [], k, v, hk => by simp at hk
  | y :: t, 0, v, hk => by
    rw [List.set_cons_zero, List.sum_cons, List.sum_cons]
    show v + t.sum = y + t.sum - y + v
    omega
  | y :: t, k + 1, v, hk => by
    have := set_sum t k v (by simpa using hk)
    rw [List.set_cons_succ, List.sum_cons, List.sum_cons, this]
    show y + (t.sum - t.getD k 0 + v) = y + t.sum - t.getD k 0 + v
    omega
theorem hvF_map : ∀ (j k : Nat) (G : List Int), k + j = G.length → hvF j k G = G.take k ++ (G.drop k).map (fun x => (x + 1) / 2)
  | 0, k, G, hk => by
    unfold hvF
    rw [drop_end (by omega), List.map_nil, List.append_nil, List.take_of_length_le (by omega)]
  | j + 1, k, G, hk => by
    unfold hvF
    rw [hvF_map j (k + 1) _ (by rw [List.length_set]; omega), drop_yat (xs := G) (show k < G.length by omega), List.map_cons]
    have e1 : (G.set k ((yat G k + 1) / 2)).take (k + 1) = G.take k ++ [(yat G k + 1) / 2] := by
      rw [List.take_add_one, List.take_set_of_le (Nat.le_refl k), List.getElem?_set_self (by omega)]
      rfl
    have e2 : (G.set k ((yat G k + 1) / 2)).drop (k + 1) = G.drop (k + 1) := List.drop_set_of_lt (by omega)
    rw [e1, e2, List.append_assoc]
    rfl
theorem half_sum : ∀ l : List Int, (l.map (fun x => (x + 1) / 2)).sum * 2 ≤ l.sum + l.length
  | [] => by simp
  | y :: t => by
    have := half_sum t
    rw [List.map_cons, List.sum_cons, List.sum_cons, List.length_cons]
    omega
theorem gOk_le {G : List Int} (hg : gOk G) : ∀ x ∈ G, 0 ≤ x ∧ x < 1000 := fun x hx => by
  have := mem_sum hg.2.1 x hx
  have h2 := hg.2.1 x hx
  have := hg.2.2.1
  omega
theorem gOk_gr {G : List Int} {s : Int} (hg : gOk G) (hs : 0 ≤ s ∧ s < 27) : gOk (grF G s) := by
  obtain ⟨h1, h2, h3, h4⟩ := hg
  have r0 := yat_nn h2 s
  have e0 : yput G s (yat G s + 1) = G.set s.toNat (yat G s + 1) := yput_i _ _ hs.1
  have e1 : (yput G s (yat G s + 1)).sum = G.sum + 1 := by
    rw [e0, set_sum _ _ _ (by omega), yat_i _ hs.1]
    omega
  have l1 := yput_len G s (yat G s + 1)
  have n1 : ∀ x ∈ yput G s (yat G s + 1), 0 ≤ x := put_all h2 (by omega)
  have m1 : 0 < yat (yput G s (yat G s + 1)) 26 := by
    rw [e0, yat_i _ (by decide), List.getD_eq_getElem?_getD, List.getElem?_set]
    rw [yat_i _ (by decide), List.getD_eq_getElem?_getD] at h4
    split
    · rename_i h9
      rw [if_pos (by omega)]
      show 0 < yat G s + 1
      omega
    · exact h4
  unfold grF
  split
  · rename_i hb
    rw [show hvF G.length 0 (yput G s (yat G s + 1)) = (yput G s (yat G s + 1)).map (fun x => (x + 1) / 2) by
      rw [hvF_map _ _ _ (by omega)]
      rfl]
    have hh := half_sum (yput G s (yat G s + 1))
    refine ⟨by rw [List.length_map]; omega, fun x hx => ?_, by omega, ?_⟩
    · obtain ⟨y, hy, rfl⟩ := List.mem_map.mp hx
      have := n1 y hy
      omega
    · rw [yat_i _ (by decide), List.getD_eq_getElem?_getD] at m1 ⊢
      rw [List.getElem?_map]
      cases hq : (yput G s (yat G s + 1))[(26 : Int).toNat]? with
      | none => rw [hq] at m1; exact absurd m1 (by decide)
      | some v =>
        rw [hq] at m1
        show 0 < (v + 1) / 2
        have : 0 < v := m1
        omega
  · rename_i hb
    exact ⟨by omega, n1, by omega, m1⟩
theorem gOk_start : gOk (List.replicate 26 0 ++ [1]) := by
  refine ⟨by decide, by decide, by decide, by decide⟩
/-- the bits of a text by growing counts -/
def glF : List Int → List Int → List Int → List Int
  | [], _, _ => []
  | x :: t, G, Wd => (if 0 < yat G x then wdB (yat (lbW 2 (hlL 0 G 27) Wd) x) (yat (hlL 0 G 27) x).toNat else wdB (yat (lbW 2 (hlL 0 G 27) Wd) 26) (yat (hlL 0 G 27) 26).toNat ++ wdB x 5) ++ glF t (grF G x) (lbW 2 (hlL 0 G 27) Wd)
theorem Growing_lay_loop (hK : gHyp) {t s ct cap : Nat} {T : List Int} (hts : t ≠ s) (ht0 : ¬ gS g t) (hs0 : ¬ gS g s) (hTl : T.length ≤ 120) (hTr : ∀ x ∈ T, 0 ≤ x ∧ x < 26) (hcap : cap < 1000000) : ∀ (j k : Nat) (h : Hp) (G L Wd xs : List Int) (u : Option AV), k + j = T.length → GI h g G L Wd → gOk G → wrdG Wd → gt h t = some (rW ct T) → gt h s = some (rW cap xs) → xs.length + 25 * j ≤ cap → ∃ h' G' L' Wd', (∀ P, Py scr 52 (zprog 52 1) [some (vR (some g)), some (vR (some t)), some (vR (some s)), some (vI k), u] [] h P = P (.inl none, h')) ∧ GI h' g G' L' Wd' ∧ wrdG Wd' ∧ gt h' s = some (rW cap (xs ++ glF (T.drop k) G Wd)) ∧ fr (fun a => gS g a ∨ a = s) h h'
  | 0, k, h, G, L, Wd, xs, u, hk, hi, hg, hw, ht, hs, hx => by
    refine ⟨h, G, L, Wd, fun P => ?_, hi, hw, ?_, fr_refl _ _⟩
    · rw [pg_Growing_lay_1]
      simp (disch := first | omega | (simp only [ln_ap, ln_ut, ln_xc]; done) | (simp only [ln_ap, ln_ut, ln_xc]; omega)) only [py_iload0, py_iload1, py_iload2, py_iload3, py_iload4, py_iload5, py_iload6, py_iload7, py_iload8, py_iload9, py_iload10, py_iload11, py_iload12, py_lload0, py_lload1, py_lload2, py_lload3, py_lload4, py_lload5, py_lload7, py_lload9, py_fload7, py_dload7, py_aloadR0, py_aloadM0, py_aloadR1, py_aloadM1, py_aloadR2, py_aloadM2, py_aloadR3, py_aloadM3, py_aloadR4, py_aloadM4, py_aloadR5, py_aloadM5, py_aloadR6, py_aloadM6, py_aloadR7, py_aloadM7, py_aloadR8, py_aloadM8, py_aloadR10, py_aloadM10, py_aloadR11, py_aloadM11, py_istore1N, py_istore1I, py_istore1R, py_istore1M, py_istore2N, py_istore2I, py_istore2R, py_istore2M, py_istore3N, py_istore3I, py_istore3R, py_istore3M, py_istore4N, py_istore4I, py_istore4R, py_istore4M, py_istore5N, py_istore5I, py_istore5R, py_istore5M, py_istore6N, py_istore6I, py_istore6R, py_istore6M, py_istore7N, py_istore7I, py_istore7R, py_istore7M, py_istore8N, py_istore8I, py_istore8R, py_istore8M, py_istore9N, py_istore9I, py_istore9R, py_istore9M, py_istore10N, py_istore10I, py_istore10R, py_istore10M, py_istore11N, py_istore11I, py_istore11R, py_istore11M, py_istore12N, py_istore12I, py_istore12R, py_istore12M, py_lstore1N, py_lstore1I, py_lstore1R, py_lstore1M, py_lstore2N, py_lstore2I, py_lstore2R, py_lstore2M, py_lstore3N, py_lstore3I, py_lstore3R, py_lstore3M, py_lstore4N, py_lstore4I, py_lstore4R, py_lstore4M, py_lstore5N, py_lstore5I, py_lstore5R, py_lstore5M, py_lstore7N, py_lstore7I, py_lstore7R, py_lstore7M, py_lstore9N, py_lstore9I, py_lstore9R, py_lstore9M, py_fstore7N, py_fstore7I, py_fstore7R, py_fstore7M, py_dstore7N, py_dstore7I, py_dstore7R, py_dstore7M, py_astoreR1N, py_astoreR1I, py_astoreR1R, py_astoreR1M, py_astoreM1N, py_astoreM1I, py_astoreM1R, py_astoreM1M, py_astoreR2N, py_astoreR2I, py_astoreR2R, py_astoreR2M, py_astoreM2N, py_astoreM2I, py_astoreM2R, py_astoreM2M, py_astoreR3N, py_astoreR3I, py_astoreR3R, py_astoreR3M, py_astoreM3N, py_astoreM3I, py_astoreM3R, py_astoreM3M, py_astoreR4N, py_astoreR4I, py_astoreR4R, py_astoreR4M, py_astoreM4N, py_astoreM4I, py_astoreM4R, py_astoreM4M, py_astoreR5N, py_astoreR5I, py_astoreR5R, py_astoreR5M, py_astoreM5N, py_astoreM5I, py_astoreM5R, py_astoreM5M, py_astoreR6N, py_astoreR6I, py_astoreR6R, py_astoreR6M, py_astoreM6N, py_astoreM6I, py_astoreM6R, py_astoreM6M, py_astoreR7N, py_astoreR7I, py_astoreR7R, py_astoreR7M, py_astoreM7N, py_astoreM7I, py_astoreM7R, py_astoreM7M, py_astoreR8N, py_astoreR8I, py_astoreR8R, py_astoreR8M, py_astoreM8N, py_astoreM8I, py_astoreM8R, py_astoreM8M, py_astoreR10N, py_astoreR10I, py_astoreR10R, py_astoreR10M, py_astoreM10N, py_astoreM10I, py_astoreM10R, py_astoreM10M, py_astoreR11N, py_astoreR11I, py_astoreR11R, py_astoreR11M, py_astoreM11N, py_astoreM11I, py_astoreM11R, py_astoreM11M, py_iinc1N, py_iinc1I, py_iinc1R, py_iinc1M, py_iinc2N, py_iinc2I, py_iinc2R, py_iinc2M, py_iinc3N, py_iinc3I, py_iinc3R, py_iinc3M, py_iinc4N, py_iinc4I, py_iinc4R, py_iinc4M, py_iinc5N, py_iinc5I, py_iinc5R, py_iinc5M, py_iinc6N, py_iinc6I, py_iinc6R, py_iinc6M, py_iinc7N, py_iinc7I, py_iinc7R, py_iinc7M, py_iinc8N, py_iinc8I, py_iinc8R, py_iinc8M, py_iinc9N, py_iinc9I, py_iinc9R, py_iinc9M, py_iinc10N, py_iinc10I, py_iinc10R, py_iinc10M, py_iinc11N, py_iinc11I, py_iinc11R, py_iinc11M, py_iinc12N, py_iinc12I, py_iinc12R, py_iinc12M, py_iconst, py_null, py_ldc, py_ldcL0, py_ldcL1, py_fconst, py_dconst, py_dupI, py_dupR, py_popI, py_popR, py_dupx1I, py_dupx1R, py_dup2, py_iadd, py_isub, py_imul, py_ladd, py_lmul, py_idiv, py_irem, py_ldiv, py_lrem, py_iand, py_ixor, py_ishl, py_ishr, py_lcmp, py_i2l, py_l2i, py_i2c, py_i2f, py_i2d, py_f2d, py_fdiv, py_ddiv, py_dcmp, py_fcmp, py_goto, py_nop, py_acmp11, py_acmp1R, py_iaload, py_ialoadM, py_caload, py_baload, py_laload, py_daload, py_aaload, py_iastore, py_castore, py_bastore, py_lastore, py_dastore, py_aastoreN, py_aastoreS, py_alen, py_alen0, py_alen1, py_getstatic, py_new0, py_new1, py_new2, py_new3, py_new4, py_new5, py_new6, py_new7, py_throw, py_getfield, py_putI, py_putR, py_putM, py_checkcast, py_ireturn, py_ireturn1, py_ireturn2, py_lreturn, py_freturn, py_dreturn, py_areturn, py_return, zaft_n, zaft_s, zaft_x, zaft_x1, zaft_x2, py_rsize, py_rat, py_rput, py_radd, py_rfill, py_rinit, py_max, py_min, py_oinit, py_if_eq_t, py_ic_eq_t, py_if_eq_f, py_ic_eq_f, py_if_ne_t, py_ic_ne_t, py_if_ne_f, py_ic_ne_f, py_if_lt_t, py_ic_lt_t, py_if_lt_f, py_ic_lt_f, py_if_ge_t, py_ic_ge_t, py_if_ge_f, py_ic_ge_f, py_if_gt_t, py_ic_gt_t, py_if_gt_f, py_ic_gt_f, py_if_le_t, py_ic_le_t, py_if_le_f, py_ic_le_f, py_putC, py_newarray, py_anewarray, yv_some, yw_some, yF_r, yF_o, yG_o, yP_o, yP_r, yC_r, yC_o, zisc_o, yrw_rW, yr1_s, yr2_s, yr3_s, yr4_s, yr8_s, yfr_o, yI_s, yJ_s, yL_s, yM_s, yD_s, yE_s, yQ_s, yUn_s, yN_I, yN_L, yN_D, yN_Q, ln_ut, ln_ap, ln_xc, gt_xc, gt_ne, gt_eq, gt_al, gt_ae, Option.map_some, List.getElem?_cons_zero, List.getElem?_cons_succ, List.set_cons_zero, List.set_cons_succ, List.length_cons, List.length_nil, true_and, and_true, if_true, Nat.reduceAdd, Nat.reduceLeDiff, Nat.reduceLT, ut_same, Int.toNat_zero, List.take_zero, List.drop_zero, pg_Growing_lay_0, pg_Growing_lay_2, pg_Growing_lay_3, pg_Growing_lay_4, ht]
    · rw [drop_end (by omega)]
      unfold glF
      rw [List.append_nil]
      exact hs
  | j + 1, k, h, G, L, Wd, xs, u, hk, hi, hg, hw, ht, hs, hx => by
    obtain ⟨hl20, hwd⟩ := hK G hg
    have hlR : lenR (hlL 0 G 27) := fun x hx => by have := hl20 x hx; omega
    have hgT := hg.2.2.1
    obtain ⟨h1, e1, i1, f1⟩ := c_Growing_makeCode (scr := scr) hi hg.1 hg.2.1 (by omega) hlR
    have hw1 := hwd Wd hw
    have hwR := hw1.1
    have x1 := (hTr _ (yat_mem (show k < T.length by omega)))
    have r1 := yat_all (Q := fun x => 0 ≤ x ∧ x < 1000) (gOk_le hg) (by omega) (yat T k)
    have ht1 := (f1.2.2 t ht0).trans ht
    have hs1 := (f1.2.2 s hs0).trans hs
    have i1' := i1
    obtain ⟨a1, a2, a3, a4, a5, a6, a7⟩ := i1'
    have rx := yat_all (Q := fun x => -1 ≤ x ∧ x ≤ 20) hl20 (by omega) (yat T k)
    have rm := yat_all (Q := fun x => -1 ≤ x ∧ x ≤ 20) hl20 (by omega) 26
    have hsl := gt_lt hs1
    have hgs : s < g ∨ g + 18 < s := by omega
    have hgt : t < g ∨ g + 18 < t := by omega
    rw [drop_yat (show k < T.length by omega)]
    by_cases hc : 0 < yat G (yat T k)
    · have l1 := wdB_len (yat (lbW 2 (hlL 0 G 27) Wd) (yat T k)) (yat (hlL 0 G 27) (yat T k)).toNat
      have f2 : fr (fun a => a = s) h1 (ut h1 s (rW cap (xs ++ wdB (yat (lbW 2 (hlL 0 G 27) Wd) (yat T k)) (yat (hlL 0 G 27) (yat T k)).toNat))) := fr_ut _ (fr_refl _ _) rfl
      obtain ⟨h3, e3, i3, f3⟩ := c_Growing_grow (scr := scr) (s := yat T k) (GI_fr i1 f2 (fun a _ _ h9 => by omega)) hg.1 (gOk_le hg) (by omega) (by omega)
      have ht3 : gt h3 t = some (rW ct T) := (f3.2.2 t ht0).trans (by simp (disch := first | omega | (simp only [ln_ap, ln_ut, ln_xc]; done) | (simp only [ln_ap, ln_ut, ln_xc]; omega)) only [gt_xc, gt_ne, gt_eq, gt_al, gt_ae, ht1])
      have hs3 : gt h3 s = some (rW cap (xs ++ wdB (yat (lbW 2 (hlL 0 G 27) Wd) (yat T k)) (yat (hlL 0 G 27) (yat T k)).toNat)) := (f3.2.2 s hs0).trans (gt_eq _ _ hsl)
      obtain ⟨h', G', L', Wd', ep, ip, wp, sp, fp⟩ := Growing_lay_loop hK hts ht0 hs0 hTl hTr hcap j (k + 1) h3 (grF G (yat T k)) _ _ _ (some (vI (yat T k))) (by omega) i3 (gOk_gr hg (by omega)) hw1 ht3 hs3 (by rw [List.length_append, l1]; omega)
      refine ⟨h', G', L', Wd', fun P => ?_, ip, wp, ?_, ?_⟩
      · rw [pg_Growing_lay_1]
        simp (disch := first | omega | (simp only [ln_ap, ln_ut, ln_xc]; done) | (simp only [ln_ap, ln_ut, ln_xc]; omega) | assumption | exact Nat.le_of_ble_eq_true rfl | ((repeat (first | (refine (gt_ne _ _ ?_).trans ?_; · omega) | (refine (gt_al _ _ ?_).trans ?_; · (first | omega | (simp only [ln_ap, ln_ut, ln_xc]; done) | (simp only [ln_ap, ln_ut, ln_xc]; omega))))); first | assumption | (refine gt_eq _ _ ?_; (first | omega | (simp only [ln_ap, ln_ut, ln_xc]; done) | (simp only [ln_ap, ln_ut, ln_xc]; omega))) | (refine gt_ae _ _ ?_; (first | omega | (simp only [ln_ap, ln_ut, ln_xc]; done) | (simp only [ln_ap, ln_ut, ln_xc]; omega))))) only [py_iload0, py_iload1, py_iload2, py_iload3, py_iload4, py_iload5, py_iload6, py_iload7, py_iload8, py_iload9, py_iload10, py_iload11, py_iload12, py_lload0, py_lload1, py_lload2, py_lload3, py_lload4, py_lload5, py_lload7, py_lload9, py_fload7, py_dload7, py_aloadR0, py_aloadM0, py_aloadR1, py_aloadM1, py_aloadR2, py_aloadM2, py_aloadR3, py_aloadM3, py_aloadR4, py_aloadM4, py_aloadR5, py_aloadM5, py_aloadR6, py_aloadM6, py_aloadR7, py_aloadM7, py_aloadR8, py_aloadM8, py_aloadR10, py_aloadM10, py_aloadR11, py_aloadM11, py_istore1N, py_istore1I, py_istore1R, py_istore1M, py_istore2N, py_istore2I, py_istore2R, py_istore2M, py_istore3N, py_istore3I, py_istore3R, py_istore3M, py_istore4N, py_istore4I, py_istore4R, py_istore4M, py_istore5N, py_istore5I, py_istore5R, py_istore5M, py_istore6N, py_istore6I, py_istore6R, py_istore6M, py_istore7N, py_istore7I, py_istore7R, py_istore7M, py_istore8N, py_istore8I, py_istore8R, py_istore8M, py_istore9N, py_istore9I, py_istore9R, py_istore9M, py_istore10N, py_istore10I, py_istore10R, py_istore10M, py_istore11N, py_istore11I, py_istore11R, py_istore11M, py_istore12N, py_istore12I, py_istore12R, py_istore12M, py_lstore1N, py_lstore1I, py_lstore1R, py_lstore1M, py_lstore2N, py_lstore2I, py_lstore2R, py_lstore2M, py_lstore3N, py_lstore3I, py_lstore3R, py_lstore3M, py_lstore4N, py_lstore4I, py_lstore4R, py_lstore4M, py_lstore5N, py_lstore5I, py_lstore5R, py_lstore5M, py_lstore7N, py_lstore7I, py_lstore7R, py_lstore7M, py_lstore9N, py_lstore9I, py_lstore9R, py_lstore9M, py_fstore7N, py_fstore7I, py_fstore7R, py_fstore7M, py_dstore7N, py_dstore7I, py_dstore7R, py_dstore7M, py_astoreR1N, py_astoreR1I, py_astoreR1R, py_astoreR1M, py_astoreM1N, py_astoreM1I, py_astoreM1R, py_astoreM1M, py_astoreR2N, py_astoreR2I, py_astoreR2R, py_astoreR2M, py_astoreM2N, py_astoreM2I, py_astoreM2R, py_astoreM2M, py_astoreR3N, py_astoreR3I, py_astoreR3R, py_astoreR3M, py_astoreM3N, py_astoreM3I, py_astoreM3R, py_astoreM3M, py_astoreR4N, py_astoreR4I, py_astoreR4R, py_astoreR4M, py_astoreM4N, py_astoreM4I, py_astoreM4R, py_astoreM4M, py_astoreR5N, py_astoreR5I, py_astoreR5R, py_astoreR5M, py_astoreM5N, py_astoreM5I, py_astoreM5R, py_astoreM5M, py_astoreR6N, py_astoreR6I, py_astoreR6R, py_astoreR6M, py_astoreM6N, py_astoreM6I, py_astoreM6R, py_astoreM6M, py_astoreR7N, py_astoreR7I, py_astoreR7R, py_astoreR7M, py_astoreM7N, py_astoreM7I, py_astoreM7R, py_astoreM7M, py_astoreR8N, py_astoreR8I, py_astoreR8R, py_astoreR8M, py_astoreM8N, py_astoreM8I, py_astoreM8R, py_astoreM8M, py_astoreR10N, py_astoreR10I, py_astoreR10R, py_astoreR10M, py_astoreM10N, py_astoreM10I, py_astoreM10R, py_astoreM10M, py_astoreR11N, py_astoreR11I, py_astoreR11R, py_astoreR11M, py_astoreM11N, py_astoreM11I, py_astoreM11R, py_astoreM11M, py_iinc1N, py_iinc1I, py_iinc1R, py_iinc1M, py_iinc2N, py_iinc2I, py_iinc2R, py_iinc2M, py_iinc3N, py_iinc3I, py_iinc3R, py_iinc3M, py_iinc4N, py_iinc4I, py_iinc4R, py_iinc4M, py_iinc5N, py_iinc5I, py_iinc5R, py_iinc5M, py_iinc6N, py_iinc6I, py_iinc6R, py_iinc6M, py_iinc7N, py_iinc7I, py_iinc7R, py_iinc7M, py_iinc8N, py_iinc8I, py_iinc8R, py_iinc8M, py_iinc9N, py_iinc9I, py_iinc9R, py_iinc9M, py_iinc10N, py_iinc10I, py_iinc10R, py_iinc10M, py_iinc11N, py_iinc11I, py_iinc11R, py_iinc11M, py_iinc12N, py_iinc12I, py_iinc12R, py_iinc12M, py_iconst, py_null, py_ldc, py_ldcL0, py_ldcL1, py_fconst, py_dconst, py_dupI, py_dupR, py_popI, py_popR, py_dupx1I, py_dupx1R, py_dup2, py_iadd, py_isub, py_imul, py_ladd, py_lmul, py_idiv, py_irem, py_ldiv, py_lrem, py_iand, py_ixor, py_ishl, py_ishr, py_lcmp, py_i2l, py_l2i, py_i2c, py_i2f, py_i2d, py_f2d, py_fdiv, py_ddiv, py_dcmp, py_fcmp, py_goto, py_nop, py_acmp11, py_acmp1R, py_iaload, py_ialoadM, py_caload, py_baload, py_laload, py_daload, py_aaload, py_iastore, py_castore, py_bastore, py_lastore, py_dastore, py_aastoreN, py_aastoreS, py_alen, py_alen0, py_alen1, py_getstatic, py_new0, py_new1, py_new2, py_new3, py_new4, py_new5, py_new6, py_new7, py_throw, py_getfield, py_putI, py_putR, py_putM, py_checkcast, py_ireturn, py_ireturn1, py_ireturn2, py_lreturn, py_freturn, py_dreturn, py_areturn, py_return, zaft_n, zaft_s, zaft_x, zaft_x1, zaft_x2, py_rsize, py_rat, py_rput, py_radd, py_rfill, py_rinit, py_max, py_min, py_oinit, py_if_eq_t, py_ic_eq_t, py_if_eq_f, py_ic_eq_f, py_if_ne_t, py_ic_ne_t, py_if_ne_f, py_ic_ne_f, py_if_lt_t, py_ic_lt_t, py_if_lt_f, py_ic_lt_f, py_if_ge_t, py_ic_ge_t, py_if_ge_f, py_ic_ge_f, py_if_gt_t, py_ic_gt_t, py_if_gt_f, py_ic_gt_f, py_if_le_t, py_ic_le_t, py_if_le_f, py_ic_le_f, py_putC, py_newarray, py_anewarray, yv_some, yw_some, yF_r, yF_o, yG_o, yP_o, yP_r, yC_r, yC_o, zisc_o, yrw_rW, yr1_s, yr2_s, yr3_s, yr4_s, yr8_s, yfr_o, yI_s, yJ_s, yL_s, yM_s, yD_s, yE_s, yQ_s, yUn_s, yN_I, yN_L, yN_D, yN_Q, ln_ut, ln_ap, ln_xc, gt_xc, gt_ne, gt_eq, gt_al, gt_ae, Option.map_some, List.getElem?_cons_zero, List.getElem?_cons_succ, List.set_cons_zero, List.set_cons_succ, List.length_cons, List.length_nil, true_and, and_true, if_true, Nat.reduceAdd, Nat.reduceLeDiff, Nat.reduceLT, ut_same, Int.toNat_zero, List.take_zero, List.drop_zero, ca_Growing_makeCode, ca_Code_layWord, ca_Growing_layNumber, ca_Growing_grow, pg_Growing_lay_0, pg_Growing_lay_2, pg_Growing_lay_3, pg_Growing_lay_4, e1, e3, hi.1, c_Code_layWord, ht, ht1, a1, a2, a3, a4]
        exact ep P
      · rw [sp]
        simp only [glF, if_pos hc, List.append_assoc]
      · exact fr_trans (fr_trans (fr_trans (fr_mono f1 (fun a h9 => .inl h9)) (fr_mono f2 (fun a h9 => .inr h9))) (fr_mono f3 (fun a h9 => .inl h9))) fp
    · have l1 := wdB_len (yat (lbW 2 (hlL 0 G 27) Wd) 26) (yat (hlL 0 G 27) 26).toNat
      have l2 := wdB_len (yat T k) 5
      have f2 : fr (fun a => a = s) h1 (ut h1 s (rW cap (xs ++ wdB (yat (lbW 2 (hlL 0 G 27) Wd) 26) (yat (hlL 0 G 27) 26).toNat ++ wdB (yat T k) 5))) := fr_ut _ (fr_refl _ _) rfl
      obtain ⟨h3, e3, i3, f3⟩ := c_Growing_grow (scr := scr) (s := yat T k) (GI_fr i1 f2 (fun a _ _ h9 => by omega)) hg.1 (gOk_le hg) (by omega) (by omega)
      have ht3 : gt h3 t = some (rW ct T) := (f3.2.2 t ht0).trans (by simp (disch := first | omega | (simp only [ln_ap, ln_ut, ln_xc]; done) | (simp only [ln_ap, ln_ut, ln_xc]; omega)) only [gt_xc, gt_ne, gt_eq, gt_al, gt_ae, ht1])
      have hs3 := (f3.2.2 s hs0).trans (gt_eq h1 (rW cap (xs ++ wdB (yat (lbW 2 (hlL 0 G 27) Wd) 26) (yat (hlL 0 G 27) 26).toNat ++ wdB (yat T k) 5)) hsl)
      obtain ⟨h', G', L', Wd', ep, ip, wp, sp, fp⟩ := Growing_lay_loop hK hts ht0 hs0 hTl hTr hcap j (k + 1) h3 (grF G (yat T k)) _ _ _ (some (vI (yat T k))) (by omega) i3 (gOk_gr hg (by omega)) hw1 ht3 hs3 (by rw [List.length_append, List.length_append, l1, l2]; omega)
      have l3 : (xs ++ wdB (yat (lbW 2 (hlL 0 G 27) Wd) 26) (yat (hlL 0 G 27) 26).toNat).length = xs.length + (yat (hlL 0 G 27) 26).toNat := by rw [List.length_append, l1]
      refine ⟨h', G', L', Wd', fun P => ?_, ip, wp, ?_, ?_⟩
      · rw [pg_Growing_lay_1]
        simp (disch := first | omega | (simp only [ln_ap, ln_ut, ln_xc]; done) | (simp only [ln_ap, ln_ut, ln_xc]; omega) | assumption | exact Nat.le_of_ble_eq_true rfl | ((repeat (first | (refine (gt_ne _ _ ?_).trans ?_; · omega) | (refine (gt_al _ _ ?_).trans ?_; · (first | omega | (simp only [ln_ap, ln_ut, ln_xc]; done) | (simp only [ln_ap, ln_ut, ln_xc]; omega))))); first | assumption | (refine gt_eq _ _ ?_; (first | omega | (simp only [ln_ap, ln_ut, ln_xc]; done) | (simp only [ln_ap, ln_ut, ln_xc]; omega))) | (refine gt_ae _ _ ?_; (first | omega | (simp only [ln_ap, ln_ut, ln_xc]; done) | (simp only [ln_ap, ln_ut, ln_xc]; omega))))) only [py_iload0, py_iload1, py_iload2, py_iload3, py_iload4, py_iload5, py_iload6, py_iload7, py_iload8, py_iload9, py_iload10, py_iload11, py_iload12, py_lload0, py_lload1, py_lload2, py_lload3, py_lload4, py_lload5, py_lload7, py_lload9, py_fload7, py_dload7, py_aloadR0, py_aloadM0, py_aloadR1, py_aloadM1, py_aloadR2, py_aloadM2, py_aloadR3, py_aloadM3, py_aloadR4, py_aloadM4, py_aloadR5, py_aloadM5, py_aloadR6, py_aloadM6, py_aloadR7, py_aloadM7, py_aloadR8, py_aloadM8, py_aloadR10, py_aloadM10, py_aloadR11, py_aloadM11, py_istore1N, py_istore1I, py_istore1R, py_istore1M, py_istore2N, py_istore2I, py_istore2R, py_istore2M, py_istore3N, py_istore3I, py_istore3R, py_istore3M, py_istore4N, py_istore4I, py_istore4R, py_istore4M, py_istore5N, py_istore5I, py_istore5R, py_istore5M, py_istore6N, py_istore6I, py_istore6R, py_istore6M, py_istore7N, py_istore7I, py_istore7R, py_istore7M, py_istore8N, py_istore8I, py_istore8R, py_istore8M, py_istore9N, py_istore9I, py_istore9R, py_istore9M, py_istore10N, py_istore10I, py_istore10R, py_istore10M, py_istore11N, py_istore11I, py_istore11R, py_istore11M, py_istore12N, py_istore12I, py_istore12R, py_istore12M, py_lstore1N, py_lstore1I, py_lstore1R, py_lstore1M, py_lstore2N, py_lstore2I, py_lstore2R, py_lstore2M, py_lstore3N, py_lstore3I, py_lstore3R, py_lstore3M, py_lstore4N, py_lstore4I, py_lstore4R, py_lstore4M, py_lstore5N, py_lstore5I, py_lstore5R, py_lstore5M, py_lstore7N, py_lstore7I, py_lstore7R, py_lstore7M, py_lstore9N, py_lstore9I, py_lstore9R, py_lstore9M, py_fstore7N, py_fstore7I, py_fstore7R, py_fstore7M, py_dstore7N, py_dstore7I, py_dstore7R, py_dstore7M, py_astoreR1N, py_astoreR1I, py_astoreR1R, py_astoreR1M, py_astoreM1N, py_astoreM1I, py_astoreM1R, py_astoreM1M, py_astoreR2N, py_astoreR2I, py_astoreR2R, py_astoreR2M, py_astoreM2N, py_astoreM2I, py_astoreM2R, py_astoreM2M, py_astoreR3N, py_astoreR3I, py_astoreR3R, py_astoreR3M, py_astoreM3N, py_astoreM3I, py_astoreM3R, py_astoreM3M, py_astoreR4N, py_astoreR4I, py_astoreR4R, py_astoreR4M, py_astoreM4N, py_astoreM4I, py_astoreM4R, py_astoreM4M, py_astoreR5N, py_astoreR5I, py_astoreR5R, py_astoreR5M, py_astoreM5N, py_astoreM5I, py_astoreM5R, py_astoreM5M, py_astoreR6N, py_astoreR6I, py_astoreR6R, py_astoreR6M, py_astoreM6N, py_astoreM6I, py_astoreM6R, py_astoreM6M, py_astoreR7N, py_astoreR7I, py_astoreR7R, py_astoreR7M, py_astoreM7N, py_astoreM7I, py_astoreM7R, py_astoreM7M, py_astoreR8N, py_astoreR8I, py_astoreR8R, py_astoreR8M, py_astoreM8N, py_astoreM8I, py_astoreM8R, py_astoreM8M, py_astoreR10N, py_astoreR10I, py_astoreR10R, py_astoreR10M, py_astoreM10N, py_astoreM10I, py_astoreM10R, py_astoreM10M, py_astoreR11N, py_astoreR11I, py_astoreR11R, py_astoreR11M, py_astoreM11N, py_astoreM11I, py_astoreM11R, py_astoreM11M, py_iinc1N, py_iinc1I, py_iinc1R, py_iinc1M, py_iinc2N, py_iinc2I, py_iinc2R, py_iinc2M, py_iinc3N, py_iinc3I, py_iinc3R, py_iinc3M, py_iinc4N, py_iinc4I, py_iinc4R, py_iinc4M, py_iinc5N, py_iinc5I, py_iinc5R, py_iinc5M, py_iinc6N, py_iinc6I, py_iinc6R, py_iinc6M, py_iinc7N, py_iinc7I, py_iinc7R, py_iinc7M, py_iinc8N, py_iinc8I, py_iinc8R, py_iinc8M, py_iinc9N, py_iinc9I, py_iinc9R, py_iinc9M, py_iinc10N, py_iinc10I, py_iinc10R, py_iinc10M, py_iinc11N, py_iinc11I, py_iinc11R, py_iinc11M, py_iinc12N, py_iinc12I, py_iinc12R, py_iinc12M, py_iconst, py_null, py_ldc, py_ldcL0, py_ldcL1, py_fconst, py_dconst, py_dupI, py_dupR, py_popI, py_popR, py_dupx1I, py_dupx1R, py_dup2, py_iadd, py_isub, py_imul, py_ladd, py_lmul, py_idiv, py_irem, py_ldiv, py_lrem, py_iand, py_ixor, py_ishl, py_ishr, py_lcmp, py_i2l, py_l2i, py_i2c, py_i2f, py_i2d, py_f2d, py_fdiv, py_ddiv, py_dcmp, py_fcmp, py_goto, py_nop, py_acmp11, py_acmp1R, py_iaload, py_ialoadM, py_caload, py_baload, py_laload, py_daload, py_aaload, py_iastore, py_castore, py_bastore, py_lastore, py_dastore, py_aastoreN, py_aastoreS, py_alen, py_alen0, py_alen1, py_getstatic, py_new0, py_new1, py_new2, py_new3, py_new4, py_new5, py_new6, py_new7, py_throw, py_getfield, py_putI, py_putR, py_putM, py_checkcast, py_ireturn, py_ireturn1, py_ireturn2, py_lreturn, py_freturn, py_dreturn, py_areturn, py_return, zaft_n, zaft_s, zaft_x, zaft_x1, zaft_x2, py_rsize, py_rat, py_rput, py_radd, py_rfill, py_rinit, py_max, py_min, py_oinit, py_if_eq_t, py_ic_eq_t, py_if_eq_f, py_ic_eq_f, py_if_ne_t, py_ic_ne_t, py_if_ne_f, py_ic_ne_f, py_if_lt_t, py_ic_lt_t, py_if_lt_f, py_ic_lt_f, py_if_ge_t, py_ic_ge_t, py_if_ge_f, py_ic_ge_f, py_if_gt_t, py_ic_gt_t, py_if_gt_f, py_ic_gt_f, py_if_le_t, py_ic_le_t, py_if_le_f, py_ic_le_f, py_putC, py_newarray, py_anewarray, yv_some, yw_some, yF_r, yF_o, yG_o, yP_o, yP_r, yC_r, yC_o, zisc_o, yrw_rW, yr1_s, yr2_s, yr3_s, yr4_s, yr8_s, yfr_o, yI_s, yJ_s, yL_s, yM_s, yD_s, yE_s, yQ_s, yUn_s, yN_I, yN_L, yN_D, yN_Q, ln_ut, ln_ap, ln_xc, gt_xc, gt_ne, gt_eq, gt_al, gt_ae, Option.map_some, List.getElem?_cons_zero, List.getElem?_cons_succ, List.set_cons_zero, List.set_cons_succ, List.length_cons, List.length_nil, true_and, and_true, if_true, Nat.reduceAdd, Nat.reduceLeDiff, Nat.reduceLT, ut_same, Int.toNat_zero, List.take_zero, List.drop_zero, ca_Growing_makeCode, ca_Code_layWord, ca_Growing_layNumber, ca_Growing_grow, pg_Growing_lay_0, pg_Growing_lay_2, pg_Growing_lay_3, pg_Growing_lay_4, e1, e3, c_Code_layWord, c_Growing_layNumber, hi.1, ht, ht1, a1, a2, a3, a4]
        exact ep P
      · rw [sp]
        simp only [glF, if_neg hc, List.append_assoc]
      · exact fr_trans (fr_trans (fr_trans (fr_mono f1 (fun a h9 => .inl h9)) (fr_mono f2 (fun a h9 => .inr h9))) (fr_mono f3 (fun a h9 => .inl h9))) fp
end
