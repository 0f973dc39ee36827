/-! ===== Arrays.copyOf(Object[], int) ===== -/
abbrev cqA : String := "java/util/Arrays"
abbrev cpO : String := "[Ljava/lang/Object;"
abbrev cpG : MethodName := ⟨"java/lang/Object", "getClass", "()Ljava/lang/Class;"⟩
abbrev cpN2 : MethodName := ⟨"java/util/Arrays", "copyOf", "([Ljava/lang/Object;I)[Ljava/lang/Object;"⟩
abbrev cpN3 : MethodName := ⟨"java/util/Arrays", "copyOf", "([Ljava/lang/Object;ILjava/lang/Class;)[Ljava/lang/Object;"⟩
abbrev cpY : MethodName := ⟨"java/lang/System", "arraycopy", "(Ljava/lang/Object;ILjava/lang/Object;II)V"⟩
abbrev cpR : Option FieldType := some (.array (.object "java/lang/Object"))
def cqW : List (Nat × Jvm.Cond) := [(98, .initialized cqA), (99, .initialized "java/lang/System"), (79, .initialized "java/lang/Math"), (227, .static Lib.Math.min.name), (228, .code Lib.Math.min.name Lib.Math.min.code 2 (some .int)),
  (963, .methodLink "java/util/ArrayList" 66 cpN2), (964, .static cpN2), (965, .code cpN2 prog_27_method_119_code 2 cpR), (966, .methodLink cqA 86 cpG), (967, .instanceMethod cpG), (984, .native cpG), (985, .methodLink cqA 300 cpN3), (986, .static cpN3), (987, .code cpN3 prog_27_method_120_code 4 cpR),
  (988, .classLink cqA 110 cpO), (990, .classLink cqA 2 "java/lang/Object"), (991, .methodLink cqA 304 Lib.Math.min.name), (992, .methodLink cqA 150 cpY), (993, .static cpY), (994, .native cpY), (1805, .selects cpO cpG cpG), (1806, .declares cpG)]
set_option maxRecDepth 100000 in
theorem cqW_all : cqW.all (fun q => zat q.1 q.2) = true := by decide +kernel
theorem cqW_mem {i : Nat} {q : Nat × Jvm.Cond} (h : cqW[i]? = some q) : q.2 ∈ zW := zat_mem (List.all_eq_true.mp cqW_all q (List.mem_of_getElem? h))
set_option maxRecDepth 100000 in
theorem cpC_all : (List.range 8).all (fun ci => [1787, 1788, 1789, 1790, 1791, 1792, 1793, 1794].any (fun i => zat i (.castable (zcn ci) "java/lang/Object"))) = true := by decide +kernel
def cpT (t : Nat) : String := match t with
  | 0 => "[I" | 1 => "[C" | 2 => "[Z" | 3 => "[J" | 4 => "[D" | 5 => "[Ljava/lang/Object;" | 6 => "[[I" | 7 => "[[J" | _ => "[[[J"
set_option maxRecDepth 100000 in
theorem cpT_all : (List.range 9).all (fun t => [1807, 1809, 1810, 1811, 1812, 1813, 1814, 1815, 1816].any (fun i => zat i (.castable (cpT t) "java/lang/Object"))) = true := by decide +kernel
theorem cpT_cls {K : ZK} {s : State} (hK : va_K (zD K) zcl (ztys K) s) {t : Nat} (ht : t < 9) : s.vm.findClass (cpT t) = some (zcA K t) ∧ ∃ kC : Class, s.vm.classes[zcA K t]? = some kC := by
  have h1 := hK.2 t _ (ztys_at K ht)
  obtain ⟨-, k, hk, -⟩ := h1.1 0 (fun _ => .null)
  refine ⟨?_, k, hk⟩
  have h2 := h1.2
  rcases (show t = 0 ∨ t = 1 ∨ t = 2 ∨ t = 3 ∨ t = 4 ∨ t = 5 ∨ t = 6 ∨ t = 7 ∨ t = 8 by omega) with rfl | rfl | rfl | rfl | rfl | rfl | rfl | rfl | rfl
  · exact h2
  · exact h2
  · exact h2
  · exact h2
  · exact h2
  · obtain ⟨-, -, -, -, -, h4⟩ := h2
    exact h4
  · exact h2
  · exact h2
  · exact h2
theorem cp_asg {s : State} {C : String} {cX : ClassId} (hw : ∀ a, (Jvm.Cond.castable C "java/lang/Object").before a s = true) (hc : s.vm.findClass C = some cX) : ∀ comp : ClassId, s.vm.findClass "java/lang/Object" = some comp → s.vm.assignable cX comp = true := fun comp hcomp => by
  obtain ⟨c3, c4, h3, h4, h5⟩ := Cond.castable_spec (hw #[])
  rw [hc] at h3
  rw [hcomp] at h4
  cases h3
  cases h4
  exact h5
/-- every cell of the world may stand in an array of objects -/
theorem cp_any {K : ZK} {ws : va_W} {h : Hp} {s : State} {H : Heap} (hts : ∀ w ∈ zW, ∀ a, w.before a s = true) (hK : va_K (zD K) zcl (ztys K) s) (hP : va_P (zD K) zcl ws H) (hH : zHR K ws h) {k : Nat} {q : Nat × va_E} (hk : ws[k]? = some q) : va_Any "java/lang/Object" s H q.1 := by
  have hl : k < h.1.length := by rw [← hH.1]; exact (List.getElem?_eq_some_iff.mp hk).1
  obtain ⟨q', hq', hc⟩ := hH.2 k _ (List.getElem?_eq_getElem hl)
  rw [hk] at hq'
  cases hq'
  have hat := hP k q hk
  have arr : ∀ (t : Nat) (x : vp_A), t < 9 → q.2 = .inl (zcA K t, x) → va_Any "java/lang/Object" s H q.1 := fun t x ht hq => by
    unfold va_at at hat
    rw [hq] at hat
    obtain ⟨f1, kC, f2⟩ := cpT_cls hK ht
    have hcl : (vp_cell (zcA K t) x).cls = zcA K t := by
      obtain ⟨n, x⟩ := x
      rcases x with x | x | x | x | x <;> rfl
    have hvm : (vp_cell (zcA K t) x).vm.isStatics = false := by
      obtain ⟨n, x⟩ := x
      rcases x with x | x | x | x | x <;> rfl
    refine ⟨_, hat, hvm, ⟨kC, by dsimp only; rw [hcl]; exact f2⟩, ?_⟩
    dsimp only
    rw [hcl]
    exact cp_asg (C := cpT t) (hts _ (zany_mem (List.all_eq_true.mp cpT_all t (List.mem_range.mpr ht)))) f1
  revert hc
  generalize h.1[k] = c
  intro hc
  match c, hc with
  | .inl (ci, fs), ⟨vs, he, _, _⟩ =>
    unfold va_at at hat
    rw [he] at hat
    obtain ⟨r, hr, cell, g1, g2, g3, -⟩ := hat
    have hci : ci < 8 := (List.getElem?_eq_some_iff.mp hr).1
    obtain ⟨C, T, N⟩ := r
    obtain ⟨-, -, -, -, -, -, -, hCn, -⟩ := zcl_ok hr
    obtain ⟨kC, f2, -⟩ := (hK.1 ci _ hr).2.2
    have f1 : s.vm.findClass C = some (K.1 ci) := (hK.1 ci _ hr).2.1
    refine ⟨cell, g1, by rw [g3]; rfl, ⟨kC, by rw [g2]; exact f2⟩, ?_⟩
    rw [g2]
    refine cp_asg (C := C) ?_ f1
    have := hts _ (zany_mem (List.all_eq_true.mp cpC_all ci (List.mem_range.mpr hci)))
    rw [hCn]
    exact this
  | .inr (.inl (t, xs)), ⟨ht, he⟩ => exact arr t _ (by omega) he
  | .inr (.inr (.inl xs)), he => exact arr 3 _ (by omega) he
  | .inr (.inr (.inr (.inl xs))), he => exact arr 4 _ (by omega) he
  | .inr (.inr (.inr (.inr (t, xs)))), ⟨ht, f, he, _⟩ => exact arr (5 + t) _ (by omega) he
theorem cp3_0 : decode prog_27_method_120_code 0 = .ok (.aload_n 2, 1) := by decide +kernel
theorem cp3_1 : decode prog_27_method_120_code 1 = .ok (.ldc 110, 2) := by decide +kernel
theorem cp3_3 : decode prog_27_method_120_code 3 = .ok (.if_acmp .ne 10, 3) := by decide +kernel
theorem cp3_6 : decode prog_27_method_120_code 6 = .ok (.iload_n 1, 1) := by decide +kernel
theorem cp3_7 : decode prog_27_method_120_code 7 = .ok (.anewarray 2, 3) := by decide +kernel
theorem cp3_10 : decode prog_27_method_120_code 10 = .ok (.goto 14, 3) := by decide +kernel
theorem cp3_24 : decode prog_27_method_120_code 24 = .ok (.astore_n 3, 1) := by decide +kernel
theorem cp3_25 : decode prog_27_method_120_code 25 = .ok (.aload_n 0, 1) := by decide +kernel
theorem cp3_26 : decode prog_27_method_120_code 26 = .ok (.iconst 0, 1) := by decide +kernel
theorem cp3_27 : decode prog_27_method_120_code 27 = .ok (.aload_n 3, 1) := by decide +kernel
theorem cp3_28 : decode prog_27_method_120_code 28 = .ok (.iconst 0, 1) := by decide +kernel
theorem cp3_29 : decode prog_27_method_120_code 29 = .ok (.aload_n 0, 1) := by decide +kernel
theorem cp3_30 : decode prog_27_method_120_code 30 = .ok (.arraylength, 1) := by decide +kernel
theorem cp3_31 : decode prog_27_method_120_code 31 = .ok (.iload_n 1, 1) := by decide +kernel
theorem cp3_32 : decode prog_27_method_120_code 32 = .ok (.invokestatic 304, 3) := by decide +kernel
theorem cp3_35 : decode prog_27_method_120_code 35 = .ok (.invokestatic 150, 3) := by decide +kernel
theorem cp3_38 : decode prog_27_method_120_code 38 = .ok (.aload_n 3, 1) := by decide +kernel
theorem cp3_39 : decode prog_27_method_120_code 39 = .ok (.areturn, 1) := by decide +kernel
theorem cp2_0 : decode prog_27_method_119_code 0 = .ok (.aload_n 0, 1) := by decide +kernel
theorem cp2_1 : decode prog_27_method_119_code 1 = .ok (.iload_n 1, 1) := by decide +kernel
theorem cp2_2 : decode prog_27_method_119_code 2 = .ok (.aload_n 0, 1) := by decide +kernel
theorem cp2_3 : decode prog_27_method_119_code 3 = .ok (.invokevirtual 86, 3) := by decide +kernel
theorem cp2_6 : decode prog_27_method_119_code 6 = .ok (.invokestatic 300, 3) := by decide +kernel
theorem cp2_9 : decode prog_27_method_119_code 9 = .ok (.areturn, 1) := by decide +kernel
def cpP3 (K : ZK) (ws : va_W) (h : Hp) (a : Nat) (n : Int) (mi : Nat) : Array Value → State → Prop := fun v U => ∃ q : Nat × va_E, ws[a]? = some q ∧ v = [.ref q.1, .int (Int32.ofInt n), .ref mi].toArray ∧ va_P (zD K) zcl ws U.heap ∧ va_K (zD K) zcl (ztys K) U ∧ va_D (zA K) ws ∧ zHR K ws h ∧ zCX K U ∧ va_Mi cpO mi U
theorem cpP3_blind (K : ZK) (ws : va_W) (h : Hp) (a : Nat) (n : Int) (mi : Nat) : FrameBlind (cpP3 K ws h a n mi) := by
  intro v U g mk ⟨q, h1, h2, h3, h4, h5, h6, h7, h8⟩
  exact ⟨q, h1, h2, h3, va_K.moved (u := U) (U := U.calling g mk v) (Vm.Alike.refl U.vm) h4, h5, h6, h7.moved (State.WarmedH.refl U) rfl va_S.rf, va_Mi.moved (u := U) (U := U.calling g mk v) (Vm.Alike.refl U.vm) h8⟩
def cpM (k : Nat) (n : Int) : Room := { frames := k, cells := 1, slots := n.toNat, locals := 24 * k }
theorem zcop_spec {h h2 : Hp} {a : Nat} {n : Int} (hr : zcop h a n = some h2) : ∃ xs, h.1[a]? = some (cQ 0 xs) ∧ (xs.length : Int) ≤ n ∧ n < 1000000 ∧ h2 = (h.1 ++ [cQ 0 (xs ++ List.replicate (n.toNat - xs.length) none)], h.2) := by
  unfold zcop at hr
  split at hr
  · rename_i xs hxs
    split at hr
    · rename_i hc
      cases hr
      exact ⟨xs, hxs, hc.1, hc.2, rfl⟩
    · cases hr
  · cases hr
section CPY
variable {l : Launch}
theorem cp3_met {K : ZK} {ws : va_W} {h h2 : Hp} {a : Nat} {n : Int} {mi : Nat} (hr : zcop h a n = some h2) : vx_Met l cpN3 (.code cpN3 prog_27_method_120_code 4 cpR :: zW) (cpM 2 n) (cpP3 K ws h a n mi) (zQ K ws (.inl (some (vR (some h.1.length))), h2)) (zX K ws (.inl (some (vR (some h.1.length))), h2)) 1 n.toNat (zA K) := by
  obtain ⟨xs, hxs, hn1, hn2, rfl⟩ := zcop_spec hr
  have n0 : 0 ≤ n := by omega
  refine vx_ofW (cc := prog_27_method_120_code) (maxL := 4) (ret := cpR) (by decide) rfl (fun p e s m args below meth c s₁ B hml ht hv => ?_)
  obtain ⟨⟨qa, ea⟩, hq, rfl, hP, hK, hD, hH, hCX, hM⟩ := hv
  have hx := B.exec
  have hb := B.bytes
  have hret := B.returns
  have hown : s.vm.findClass cqA = some m.cls := findClass_of_methodNamed B.named
  have hlk := B.notSynchronized
  have hts := hCX.1
  have hba : zba K ≤ s.heap.size := hCX.2.2.2.2.2.2.2.2.2.2.2.2.1
  have cw : ∀ (i : Nat) (q : Nat × Jvm.Cond), cqW[i]? = some q → ∀ as, q.2.before as s = true := fun i q hi as => hts _ (cqW_mem hi) as
  obtain ⟨q', hq', -, f, he, hf⟩ := hH.2 a _ hxs
  rw [hq] at hq'
  cases hq'
  dsimp only at he
  subst he
  have hneg : ¬ Int32.ofInt n < 0 := by rw [show (0 : Int32) = Int32.ofInt 0 from rfl, z32_lt, nrm_0, nrm_id (by omega) (by omega)]; omega
  have hcl := z_cl n0 (show n < 2147483648 by omega)
  have hcx := z_cl (Int.natCast_nonneg xs.length) (show (xs.length : Int) < 2147483648 by omega)
  show W p l e (cpM 2 n) s m _ below meth c s.heap [] 0 0 _ (entryFrame m _ 4)
  rw [lg_entry_eq]
  have hL := lv_entry [.ref qa, .int (Int32.ofInt n), .ref mi] (n := 4) (show 3 ≤ 4 by omega)
  revert hL
  generalize (lg_sl [Value.ref qa, .int (Int32.ofInt n), .ref mi] ++ List.replicate (4 - (lg_sl [Value.ref qa, .int (Int32.ofInt n), .ref mi]).length) Slot.unset).toArray = ls
  intro hL
  have hL : lv_has ls 4 [(0, .ref qa), (1, .int (Int32.ofInt n)), (2, .ref mi)] := hL
  refine lv_aload_n (i := 2) hx hb cp3_0 rfl (lv_at hL 2 rfl) ?_
  refine va_ldcM hx hb hown (cw 14 _ rfl _) hM cp3_1 ?_
  refine lv_acmp_ne (rx := some mi) (ry := some mi) (tgt := 13) hx hb cp3_3 rfl (fun h9 => absurd rfl h9) (fun _ => ?_)
  refine lv_iload_n (i := 1) hx hb cp3_6 rfl (lv_at hL 1 rfl) ?_
  refine va_newq (C := "java/lang/Object") (N' := n.toNat) hx hb hown (cw 15 _ rfl _) (va_AO.of (A := #[]) (hts _ (zat_mem zwords4.1) _)) hK hP hD va_S.rf (zA_of hba) hneg hcl (by omega) (by show 0 + 1 ≤ 1; omega) (by show 0 + n.toNat ≤ n.toNat; omega) cp3_7 (fun q cA H1 hK1 hP1 hD1 hS1 => ?_)
  have hqc : cA = zcA K 5 := by
    obtain ⟨_, _, -, -, -, g1⟩ := (hK1.2 9 (cA, .object "java/lang/Object") (by rw [List.getElem?_append_right (by simp [ztys])]; simp [ztys])).2
    obtain ⟨_, _, -, -, -, g2⟩ := (hK.2 5 _ (ztys_at K (by omega))).2
    rw [g1] at g2
    exact Option.some.inj g2
  subst hqc
  rw [Nat.zero_add, Nat.zero_add]
  have hH1 := hH.push (a := q) (zCr_nul (K := K) (ws := ws) (t := 0) (by omega) n.toNat)
  have hla : a < ws.length := (List.getElem?_eq_some_iff.mp hq).1
  have ha0 : (ws ++ [(q, (.inl (zcA K 5, n.toNat, .inr (.inr (.inr (.inr (fun _ => none))))) : va_E))])[a]? = some (qa, .inl (zcA K 5, xs.length, .inr (.inr (.inr (.inr f))))) := by rw [List.getElem?_append_left hla]; exact hq
  have ha1 : (ws ++ [(q, (.inl (zcA K 5, n.toNat, .inr (.inr (.inr (.inr (fun _ => none))))) : va_E))])[ws.length]? = some (q, .inl (zcA K 5, n.toNat, .inr (.inr (.inr (.inr (fun _ => none)))))) := by rw [List.getElem?_append_right (Nat.le_refl _), Nat.sub_self]; rfl
  refine lv_goto (tgt := 24) hx hb cp3_10 rfl ?_
  refine lv_astore_n (i := 3) (nL := 4) hx hb cp3_24 rfl hL (by omega) rfl (fun ls2 hL2 => ?_)
  have hL2 : lv_has ls2 4 [(3, .ref q), (0, .ref qa), (1, .int (Int32.ofInt n)), (2, .ref mi)] := hL2
  have hml2 : c.maxLocals = ls2.size := hml.trans hL2.1.symm
  refine lv_aload_n (i := 0) hx hb cp3_25 rfl (lv_at hL2 1 rfl) ?_
  refine lv_iconst hx hb cp3_26 rfl ?_
  refine lv_aload_n (i := 3) hx hb cp3_27 rfl (lv_at hL2 0 rfl) ?_
  refine lv_iconst hx hb cp3_28 rfl ?_
  refine lv_aload_n (i := 0) hx hb cp3_29 rfl (lv_at hL2 1 rfl) ?_
  refine va_alen hx hb hK hP1 a 5 ha0 (ztys_at K (by omega)) (v := Int32.ofInt xs.length) rfl cp3_30 ?_
  refine lv_iload_n (i := 1) hx hb cp3_31 rfl (lv_at hL2 2 rfl) ?_
  refine va_mmin hx hb hml2 hown (cw 16 _ rfl _) (cw 3 _ rfl _) (cw 2 _ rfl _) (cw 4 _ rfl _) (by show 1 ≤ 2; omega) (by show 4 + 13 ≤ 48; omega) (Nat.le_refl _) (Nat.le_refl _) cp3_32 ?_
  rw [if_neg (show ¬ Int32.ofInt n < Int32.ofInt xs.length by rw [z32_lt, nrm_id (by omega) (by omega), nrm_id (by omega) (by omega)]; omega)]
  have e0 : (Int32.ofInt 0).toNatClampNeg = 0 := by decide
  refine va_copyM hx hb hml2 hown (cw 17 _ rfl _) (cw 19 _ rfl _) (cw 18 _ rfl _) (cw 1 _ rfl _) hK hP1 hD1 hS1 a ws.length 5 5 ha0 ha1 (ztys_at K (by omega)) (ztys_at K (by omega)) (by decide) (by decide)
    (by rw [show (0 : Int32) = Int32.ofInt 0 from rfl, z32_lt, nrm_0, nrm_id (by omega) (by omega)]; omega) (by rw [e0, hcx]; omega) (by rw [e0, hcx]; omega)
    (fun i hi y hy => ?_) (by show 1 ≤ 2; omega) (by show 0 + (nativeFrameWords "java/lang/System" "arraycopy" 5 + 11) ≤ 48; decide) cp3_35 (fun H2 locs2 hP2 hD2 hS2 => ?_)
  · rw [hcx] at hi
    rw [e0, Nat.zero_add] at hy
    have hi : i < xs.length := by simpa using hi
    have hz := hf i _ (List.getElem?_eq_getElem hi)
    rw [hy] at hz
    revert hz
    generalize xs[i] = o
    intro hz
    cases o with
    | none => cases hz
    | some k =>
      obtain ⟨qk, hqk, hz⟩ := hz
      cases hz
      exact cp_any hts hK hP1 hH1 (k := k) (by rw [List.getElem?_append_left (List.getElem?_eq_some_iff.mp hqk).1]; exact hqk)
  · rw [e0, hcx] at hP2 hD2
    refine lv_aload_n (i := 3) hx hb cp3_38 rfl (lv_at hL2 0 rfl) ?_
    have hx2 := (zex.app ws [(q, (.inl (zcA K 5, n.toNat, .inr (.inr (.inr (.inr (fun _ => none))))) : va_E))]).tr (zex.set (e := .inl (zcA K 5, n.toNat, .inr (.inr (.inr (.inr (va_cpy f (fun _ => none) 0 0 (xs.length : Int).toNat)))))) _ ha1)
    have el : (xs ++ List.replicate (n.toNat - xs.length) none).length = n.toNat := by simp; omega
    have hz : zCr K (ws ++ [(q, (.inl (zcA K 5, n.toNat, .inr (.inr (.inr (.inr (fun _ => none))))) : va_E))]) (cQ 0 (xs ++ List.replicate (n.toNat - xs.length) none)) (.inl (zcA K 5, n.toNat, .inr (.inr (.inr (.inr (va_cpy f (fun _ => none) 0 0 (xs.length : Int).toNat)))))) := by
      refine ⟨Nat.zero_le _, va_cpy f (fun _ => none) 0 0 (xs.length : Int).toNat, ?_, fun j o ho => ?_⟩
      · rw [el]
      · unfold va_cpy
        by_cases hj : j < xs.length
        · rw [List.getElem?_append_left hj] at ho
          rw [if_pos (show 0 ≤ j ∧ j < 0 + (xs.length : Int).toNat by omega), Nat.zero_add, Nat.sub_zero]
          exact (hf j o ho).mono (zex.app ws _)
        · rw [List.getElem?_append_right (by omega), List.getElem?_replicate] at ho
          rw [if_neg (show ¬ (0 ≤ j ∧ j < 0 + (xs.length : Int).toNat) by omega)]
          split at ho
          · cases ho; rfl
          · cases ho
    have hH2 := hH1.set (k := ws.length) (a := q) ha1 hz
    have e9 : (h.1 ++ [cQ 0 (List.replicate n.toNat none)]).set ws.length (cQ 0 (xs ++ List.replicate (n.toNat - xs.length) none)) = h.1 ++ [cQ 0 (xs ++ List.replicate (n.toNat - xs.length) none)] := by
      rw [List.set_append_right _ _ (by rw [hH.1]; exact Nat.le_refl _), hH.1, Nat.sub_self]
      rfl
    rw [show ((h.1 ++ [cQ 0 (List.replicate n.toNat none)], h.2) : Hp).1 = h.1 ++ [cQ 0 (List.replicate n.toNat none)] from rfl, e9] at hH2
    refine vx_ret ?_
    refine W.aret hx hb hret (Or.inr ⟨_, rfl⟩) (Or.inr ⟨_, rfl⟩) (fun t ht hW => ⟨_, _, rfl, ⟨_, rfl, ⟨(q, .inl (zcA K 5, n.toNat, .inr (.inr (.inr (.inr (va_cpy f (fun _ => none) 0 0 (xs.length : Int).toNat)))))), ?_, rfl⟩⟩, by rw [ht]; exact hP2, hD2, hH2, hx2, hS2.F ht⟩) hS2.2.2 cp3_39 hlk
    rw [← hH.1]
    exact List.getElem?_set_self (by simp)
theorem cp2_met {K : ZK} {ws : va_W} {h h2 : Hp} {a : Nat} {n : Int} (hr : zcop h a n = some h2) : vx_Met l cpN2 (.code cpN2 prog_27_method_119_code 2 cpR :: zW) (cpM 4 n) (zPc K [vR (some a), vI n] ws h) (zQ K ws (.inl (some (vR (some h.1.length))), h2)) (zX K ws (.inl (some (vR (some h.1.length))), h2)) 1 n.toNat (zA K) := by
  refine vx_ofW (cc := prog_27_method_119_code) (maxL := 2) (ret := cpR) (by decide) rfl (fun p e s m args below meth c s₁ B hml ht hv => ?_)
  obtain ⟨cs, rfl, hV, hP, hK, hD, hH, hCX⟩ := hv
  obtain ⟨c1, cs1, rfl, ⟨⟨qa, ea⟩, hq, rfl⟩, hV1⟩ := zvs_cons hV
  obtain ⟨c2, cs2, rfl, h2', hV2⟩ := zvs_cons hV1
  have h2' : c2 = .int (Int32.ofInt n) := h2'
  subst h2'
  have hnil := zvs_nil hV2
  subst hnil
  dsimp only at *
  have hx := B.exec
  have hb := B.bytes
  have hret := B.returns
  have hown : s.vm.findClass cqA = some m.cls := findClass_of_methodNamed B.named
  have hlk := B.notSynchronized
  have hts := hCX.1
  have cw : ∀ (i : Nat) (q : Nat × Jvm.Cond), cqW[i]? = some q → ∀ as, q.2.before as s = true := fun i q hi as => hts _ (cqW_mem hi) as
  obtain ⟨mi, hM⟩ := hCX.2.2.2.2.2.2.2.2.2.2.2.2.2
  obtain ⟨xs, hxs, hn1, hn2, -⟩ := zcop_spec hr
  obtain ⟨q', hq', -, f, he, hf⟩ := hH.2 a _ hxs
  rw [hq] at hq'
  cases hq'
  dsimp only at he
  show W p l e (cpM 4 n) s m _ below meth c s.heap [] 0 0 _ (entryFrame m _ 2)
  rw [lg_entry_eq]
  have hL := lv_entry [.ref qa, .int (Int32.ofInt n)] (n := 2) (show 2 ≤ 2 by omega)
  revert hL
  generalize (lg_sl [Value.ref qa, .int (Int32.ofInt n)] ++ List.replicate (2 - (lg_sl [Value.ref qa, .int (Int32.ofInt n)]).length) Slot.unset).toArray = ls
  intro hL
  have hL : lv_has ls 2 [(0, .ref qa), (1, .int (Int32.ofInt n))] := hL
  have hml2 : c.maxLocals = ls.size := hml.trans hL.1.symm
  refine lv_aload_n (i := 0) hx hb cp2_0 rfl (lv_at hL 0 rfl) ?_
  refine lv_iload_n (i := 1) hx hb cp2_1 rfl (lv_at hL 1 rfl) ?_
  refine lv_aload_n (i := 0) hx hb cp2_2 rfl (lv_at hL 0 rfl) ?_
  refine va_getC (C := cpO) hx hb hml2 hown (cw 8 _ rfl _) (cw 21 _ rfl _) (cw 20 _ rfl _) (cw 9 _ rfl _) (cw 10 _ rfl _) hM ⟨vp_cell (zcA K 5) (xs.length, .inr (.inr (.inr (.inr f)))), ?_, ?_, ?_⟩ (by show 1 ≤ 4; omega) (by show 2 + 14 ≤ 96; omega) cp2_3 ?_
  · have := hP a _ hq
    unfold va_at at this
    rw [he] at this
    exact this
  · rfl
  · exact (cpT_cls hK (t := 5) (by omega)).1
  have hrun := vx_runS (l := l) (e := e) (below := below) (H := s.heap) (locs := []) (cells := 0) (slots := 0) (R := cpM 4 n) (meth := meth) (bytes := prog_27_method_120_code) (maxL := 4) (ret := cpR) (own := cqA) (index := 300) (n := 3) (nL := ls.size) (cc := prog_27_method_119_code) (Ts := zW) (args := [Value.ref qa, .int (Int32.ofInt n)].toArray) (g := F0 m 6 ls [.ref mi, .int (Int32.ofInt n), .ref qa]) (As := [.ref qa, .int (Int32.ofInt n), .ref mi]) (rest := []) ⟨hx, hb, hml2, hown, fun w hw => hts w hw _⟩ (cp3_met (l := l) (K := K) (ws := ws) (mi := mi) hr)
    ⟨⟨rfl, rfl, by show 2 + 1 ≤ 4; omega, by show 8 + (4 + 11) + 48 ≤ 96; omega, fun w hw a' U hW => ?_, List.mem_cons_self, cw 13 _ rfl _, cw 0 _ rfl _, by decide, fun sig h => ?_, cw 11 _ rfl _⟩, cw 12 _ rfl _⟩ ⟨cpP3_blind _ _ _ _ _ _, fun U hU hW => ⟨_, hq, rfl, by rw [hU]; exact hP, va_K.moved hW.alike hK, hD, hH, hCX.moved hW hU va_S.rf, va_Mi.moved hW.alike hM⟩⟩ rfl rfl rfl rfl (show 2 * 0 + 0 ≤ 8 by omega) cp2_6 ⟨by show 0 + 1 ≤ 1; omega, by show 0 + n.toNat ≤ n.toNat; omega⟩
  · refine zcall hrun va_S.rf (fun vo ws2 H1 locs1 g1 g2 g3 g4 g5 g6 => ?_) (fun ci ws2 H1 locs1 q ce g1 => by cases g1)
    obtain ⟨c9, rfl, q9, hq9, rfl⟩ := g1
    rw [Nat.zero_add, Nat.zero_add]
    refine vx_ret ?_
    exact W.aret hx hb hret (Or.inr ⟨_, rfl⟩) (Or.inr ⟨_, rfl⟩) (fun t ht hW => ⟨_, ws2, rfl, ⟨_, rfl, ⟨_, hq9, rfl⟩⟩, by rw [ht]; exact g2, g3, g4, g5, g6.F ht⟩) g6.2.2 cp2_9 hlk
  · rcases List.mem_cons.mp hw with rfl | hw
    · exact zgood_mv (List.mem_filter.mp (cqW_mem (i := 13) rfl)).2 hW (cw 13 _ rfl #[])
    · exact zgood_mv (List.mem_filter.mp hw).2 hW (hts w hw #[])
  · have e3 : (parseMethodDescriptor cpN3.desc).map (fun d => d.parameters.length) = some 3 := by decide +kernel
    rw [h] at e3
    exact (Option.some.inj e3).symm
end CPY
section CPZ
variable {p : Program} {l : Launch} {e : Env} {R : Room} {s : State} {m : MethodId} {args : Array Value} {below : List Frame} {meth : Method} {c : Code} {H : Heap} {locs : List Loc} {cells slots : Nat} {Q : State → Prop}
variable {cc : ByteArray} {pc : Nat} {lsC : Array Slot} {stC : List Value} {K : ZK} {ws : va_W} {st : Sk} {h h2 : Hp}
theorem o_copy {a : Nat} {n : Int} (hx : p.tables.exec = Jvm.exec) (hb : c.code = cc) (hml : c.maxLocals = lsC.size) (hown : s.vm.findClass "java/util/ArrayList" = some m.cls) (hCX : zCX K s) (hK : va_K (zD K) zcl (ztys K) s) (hP : va_P (zD K) zcl ws H) (hD : va_D (zA K) ws) (hS : va_S (zA K) s.heap H locs) (hH : zHR K ws h) (hr : zcop h a n = some h2) (hRf : 6 ≤ R.frames) (hRl : 130 ≤ R.locals) (hcells : cells + 1 ≤ R.cells) (hslots : slots + n.toNat ≤ R.slots) (h4 : st.length ≤ 4) (hd : decode cc pc = .ok (.invokestatic 66, 3)) (hV : zvs K ws (vI n :: vR (some a) :: st) stC)
    (kk : ∀ (ws2 : va_W) (H1 : Heap) (locs1 : List Loc) stC2, zex ws ws2 → va_P (zD K) zcl ws2 H1 → va_D (zA K) ws2 → va_S (zA K) s.heap H1 locs1 → zHR K ws2 h2 → zvs K ws2 (vR (some h.1.length) :: st) stC2 → W p l e R s m args below meth c H1 locs1 (cells + 1) (slots + n.toNat) Q (F0 m (pc + 3) lsC stC2)) : W p l e R s m args below meth c H locs cells slots Q (F0 m pc lsC stC) := by
  obtain ⟨c1, stC1, rfl, h1, hV1⟩ := zvs_cons hV
  obtain ⟨c2, stC2, rfl, h2', hV2⟩ := zvs_cons hV1
  have hts := hCX.1
  have cw : ∀ (i : Nat) (q : Nat × Jvm.Cond), cqW[i]? = some q → ∀ as, q.2.before as s = true := fun i q hi as => hts _ (cqW_mem hi) as
  have hcs : zvs K ws [vR (some a), vI n] [c2, c1] := ⟨h2', h1, trivial⟩
  have hcat : (stC2.map fun v => v.category).sum ≤ 8 := by have := hV2.catle; omega
  have hrun := vx_runS (l := l) (e := e) (below := below) (H := H) (locs := locs) (cells := cells) (slots := slots) (R := R) (meth := meth) (bytes := prog_27_method_119_code) (maxL := 2) (ret := cpR) (own := "java/util/ArrayList") (index := 66) (n := 2) (nL := lsC.size) (cc := cc) (Ts := zW) (args := args) (g := F0 m pc lsC (c1 :: c2 :: stC2)) (As := [c2, c1]) (rest := stC2) ⟨hx, hb, hml, hown, fun w hw => hts w hw _⟩ (cp2_met (l := l) (K := K) (ws := ws) hr)
    ⟨⟨rfl, rfl, by show 4 + 1 ≤ _; omega, by show 8 + (2 + 11) + 96 ≤ _; omega, fun w hw a' U hW => ?_, List.mem_cons_self, cw 7 _ rfl _, cw 0 _ rfl _, by decide, fun sig h => ?_, cw 5 _ rfl _⟩, cw 6 _ rfl _⟩ ⟨zPc_blind _ _ _ _, zpre hCX hK hP hD hS hH hcs⟩ rfl rfl rfl rfl (by show 2 * 0 + _ ≤ 8; omega) hd ⟨hcells, hslots⟩
  · refine zcall hrun hS (fun vo ws2 H1 locs1 g1 g2 g3 g4 g5 g6 => ?_) (fun ci ws2 H1 locs1 q ce g1 => by cases g1)
    obtain ⟨c9, rfl, hc9⟩ := g1
    exact kk ws2 H1 locs1 (c9 :: stC2) g5 g2 g3 g6 g4 ⟨hc9, hV2.mono g5⟩
  · rcases List.mem_cons.mp hw with rfl | hw
    · exact zgood_mv (List.mem_filter.mp (cqW_mem (i := 7) rfl)).2 hW (cw 7 _ rfl #[])
    · exact zgood_mv (List.mem_filter.mp hw).2 hW (hts w hw #[])
  · have e3 : (parseMethodDescriptor cpN2.desc).map (fun d => d.parameters.length) = some 2 := by decide +kernel
    rw [h] at e3
    exact (Option.some.inj e3).symm
end CPZ
