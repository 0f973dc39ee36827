/-! a new exception that is thrown: the words that its making asks for stand in the tables -/
def zexr (ci : Nat) : Nat × ByteArray := if ci = 11 then (13, prog_30_method_4_code) else (7, Bundle.six)
def zthrW (X : String) (ix : Nat) (rx : ByteArray) : List Jvm.Cond := Bundle.throwableAtoms ++ (Bundle.throwableSAtoms ++ (ex_chain X ix rx ++ ex_tail X))
def zthrB (w : Jvm.Cond) : Bool := !vx_no w || (zgood w && vx_ot w && lw_tbl.any (fun v => decide (v = w)))
set_option maxRecDepth 100000 in
theorem zthr_all : (List.range 6).all (fun k => zthrB (.initialized (zcn (8 + k))) && vx_no (.initialized (zcn (8 + k))) && Bundle.fit (zcn (8 + k)) && (zthrW (zcn (8 + k)) (zexr (8 + k)).1 (zexr (8 + k)).2).all zthrB) = true := by decide +kernel
theorem zthrB_mem {w : Jvm.Cond} (h : zthrB w = true) (hn : vx_no w = true) : w ∈ zW ∧ vx_ot w = true := by
  unfold zthrB at h
  rw [hn] at h
  simp only [Bool.not_true, Bool.false_or, Bool.and_eq_true] at h
  obtain ⟨⟨h1, h2⟩, h3⟩ := h
  obtain ⟨v, hv, he⟩ := List.any_eq_true.mp h3
  have he := of_decide_eq_true he
  subst he
  exact ⟨List.mem_filter.mpr ⟨hv, h1⟩, h2⟩
theorem zexr_dec (ci : Nat) : decode (zexr ci).2 0 = .ok (.aload_n 0, 1) ∧ decode (zexr ci).2 1 = .ok (.aload_n 1, 1) ∧ decode (zexr ci).2 2 = .ok (.invokespecial (zexr ci).1, 3) ∧ decode (zexr ci).2 5 = .ok (.return_, 1) := by
  unfold zexr
  split
  · exact ⟨by decide +kernel, by decide +kernel, by decide +kernel, by decide +kernel⟩
  · exact ⟨by decide +kernel, by decide +kernel, by decide +kernel, by decide +kernel⟩
theorem zthr_atS {own : String} {ic ci : Nat} (h8 : 8 ≤ ci) (h14 : ci < 14) (hm : (lw_tbl.any (fun w => decide (w = .methodLink own ic (Bundle.initS (zcn ci))))) = true) : (Jvm.Cond.initialized (zcn ci) ∈ zW ∧ vx_ot (.initialized (zcn ci)) = true) ∧ Bundle.fit (zcn ci) = true ∧ ∀ w ∈ (ex_own own ic (zcn ci) (zexr ci).1 (zexr ci).2).filter vx_no, w ∈ zW ∧ vx_ot w = true := by
  have h := List.all_eq_true.mp zthr_all (ci - 8) (List.mem_range.mpr (by omega))
  rw [show 8 + (ci - 8) = ci by omega] at h
  simp only [Bool.and_eq_true] at h
  obtain ⟨⟨⟨h1, h2⟩, h3⟩, h4⟩ := h
  refine ⟨zthrB_mem h1 h2, h3, fun w hw => ?_⟩
  obtain ⟨hw1, hw2⟩ := List.mem_filter.mp hw
  by_cases he : w = .methodLink own ic (Bundle.initS (zcn ci))
  · subst he
    obtain ⟨v, hv, he⟩ := List.any_eq_true.mp hm
    have he := of_decide_eq_true he
    subst he
    exact ⟨List.mem_filter.mpr ⟨hv, rfl⟩, rfl⟩
  · refine zthrB_mem (List.all_eq_true.mp h4 w ?_) hw2
    have e1 : w ≠ .isRef (.static Bundle.tN "UNASSIGNED_STACK" Bundle.steD) := fun h9 => by subst h9; simp [vx_no] at hw2
    have e2 : w ≠ .isRef (.static Bundle.tN "SUPPRESSED_SENTINEL" Bundle.listD) := fun h9 => by subst h9; simp [vx_no] at hw2
    unfold zthrW
    unfold ex_own at hw1
    rcases List.mem_append.mp hw1 with h9 | h9
    · exact List.mem_append.mpr (Or.inl h9)
    · refine List.mem_append.mpr (Or.inr ?_)
      rcases List.mem_append.mp h9 with h9 | h9
      · exact List.mem_append.mpr (Or.inl h9)
      · refine List.mem_append.mpr (Or.inr ?_)
        rcases List.mem_append.mp h9 with h9 | h9
        · exact List.mem_append.mpr (Or.inl h9)
        · refine List.mem_append.mpr (Or.inr ?_)
          rcases List.mem_cons.mp h9 with h9 | h9
          · exact absurd h9 he
          · rcases List.mem_cons.mp h9 with h9 | h9
            · exact absurd h9 e1
            · rcases List.mem_cons.mp h9 with h9 | h9
              · exact absurd h9 e2
              · exact h9
theorem zstr_ok {K : ZK} {s : State} {o is : Nat} (hCX : zCX K s) (h : zstr o is = true) : ∃ text sa, vk_R (zcn o) is text sa s := by
  unfold zstr at h
  obtain ⟨⟨o', idx', t'⟩, he, h2⟩ := List.any_eq_true.mp h
  simp only [Bool.and_eq_true, beq_iff_eq] at h2
  obtain ⟨h3, h4⟩ := h2
  have h3 : o' = zcn o := h3
  have h4 : idx' = is := h4
  subst h3 h4
  obtain ⟨sa, h5⟩ := hCX.2.2.1 _ he
  exact ⟨_, sa, h5⟩
section ATH
variable {p : Program} {l : Launch} {e : Env} {R : Room} {s : State} {m : MethodId} {args : Array Value} {below : List Frame} {meth : Method} {c : Code} {H : Heap} {locs : List Loc} {cells slots : Nat} {Q : State → Prop}
variable {ls : Array Slot} {rest : List Value}
/-- 'throw x' of an object that was made before -/
theorem vx_athrow {cc : ByteArray} {pc : Nat} (hexec : p.tables.exec = Jvm.exec) (hb : c.code = cc) {q : Addr} (hdg : decode cc pc = .ok (.athrow, 1)) (k : vx_W p l e R s m args below meth c H locs cells slots Q (F0 m pc ls rest) q) : W p l e R s m args below meth c H locs cells slots Q (F0 m pc ls (.ref q :: rest)) := by
  intro T hT X
  obtain ⟨t, st, hq⟩ := k T hT X
  refine ⟨t, ?_, hq⟩
  have hdg' : decode c.code pc = .ok (.athrow, 1) := by rw [hb]; exact hdg
  jvm_step X.here [X.here.top, hexec, hdg', athrow.wp_sem]
  exact st
end ATH
section THR
variable {K : ZK} {l : Launch}
variable {y : Nat} {p : Program} {e : Env} {R : Room} {s : State} {m : MethodId} {args : Array Value} {below : List Frame} {meth : Method} {c : Code} {ls : Lc} {h h0 : Hp} {lsC : Array Slot} {H : Heap} {locs : List Loc} {cells slots : Nat} {ws ws0 : va_W} {pc : Nat}
theorem o_throw {ci idx is ic : Nat} (hFC : zFC K l y p R s m meth c) (hy5 : y < 295) (hP : va_P (zD K) zcl ws H) (hD : va_D (zA K) ws) (hS : va_S (zA K) s.heap H locs) (hH : zHR K ws h) (hL : zLR K ws ls lsC (zmxl y)) (hx0 : zex ws0 ws) (hc : cells + zCn h0 = zCn h) (hsl : slots + zSz h0 = zSz h) (hRc : zCn h + 1 ≤ R.cells + zCn h0) (hRs : zSz h + 6 ≤ R.slots + zSz h0) (hd : decode (zby y) pc = .ok (.new idx, 3))
    (hq : zclk (zow y) idx (zcn ci) = true) (h8 : 8 ≤ ci) (h14 : ci < 14) (hnil : zhh y = []) (d3 : decode (zby y) (pc + 3) = .ok (.dup, 1)) (d4 : decode (zby y) (pc + 4) = .ok (.ldc is, 2)) (hstr : zstr (zow y) is = true) (d6 : decode (zby y) (pc + 6) = .ok (.invokespecial ic, 3)) (hml9 : (lw_tbl.any (fun w => decide (w = .methodLink (zcn (zow y)) ic (Bundle.initS (zcn ci))))) = true) (d9 : decode (zby y) (pc + 9) = .ok (.athrow, 1)) :
    W p l e R s m args below meth c H locs cells slots (vx_MQ below (zQ K ws0 (.inr ci, (h.1, h.2 + 1))) (zX K ws0 (.inr ci, (h.1, h.2 + 1))) args s (zCn (h.1, h.2 + 1) - zCn h0) (zSz (h.1, h.2 + 1) - zSz h0) (zA K)) (F0 m pc lsC []) := by
  obtain ⟨hy, hx, hb, hret, hml, hown, hlk, hnm, htab, hCX, hRf, hRl, hst⟩ := id hFC
  obtain ⟨⟨a1, a2⟩, a3, a4⟩ := zthr_atS h8 h14 hml9
  obtain ⟨x0, x1, x2, x5⟩ := zexr_dec ci
  obtain ⟨text, sa, hsa⟩ := zstr_ok hCX hstr
  have hts := hCX.1
  have hkl := zclk_ok hq
  have g1 : zCn (h.1, h.2 + 1) = zCn h + 1 := by simp [zCn]; omega
  have g2 : zSz (h.1, h.2 + 1) = zSz h + 6 := by simp [zSz]; omega
  rw [g1, g2]
  refine ex_make (is := is) (sa := sa) (text := text) (rest := []) (A := zA K) hx hb hst x0 x1 x2 x5 hown a3 (hts _ hkl args) (hts _ a1 args) hsa (fun w hw => hts w (a4 w hw).1 args) (fun w hw => ?_) hCX.2.2.2.1 hCX.2.2.2.2.1 hS (by rw [hml]; exact hL.size) hd d3 d4 d6 (by show 2 + 3 < R.frames; omega) (by simp; omega) (by omega) (by omega) (fun q H1 ce hcq hcv hcc hle hsm => ?_)
  · rcases List.mem_cons.mp hw with rfl | hw
    · rfl
    · rcases List.mem_cons.mp hw with rfl | hw
      · exact a2
      · exact (a4 w hw).2
  · refine vx_athrow hx hb d9 ?_
    refine vx_out (E := zcn ci) (fun z hz => ?_) hlk hcq hcv hcc (fun t ht hW => ?_) hS.2.2 (by omega) (by omega)
    · rw [htab hy5, hnil] at hz
      cases hz
    · refine ⟨ci, ws, rfl, rfl, hP.kept (fun k q hk => by rw [ht]; exact hsm q.1 ((hP k q hk).lt)), hD, hH, hx0, ?_, fun q h1 h2 => ?_⟩
      · rw [ht]; exact Nat.le_trans hS.1 hle
      · rw [ht]; exact (hsm q (Nat.lt_of_lt_of_le h1 hS.1)).trans (hS.2.1 q h1 h2)
theorem o_throwW {ci idx is ic : Nat} (hFC : zFC K l y p R s m meth c) (hy5 : y < 295) (hP : va_P (zD K) zcl ws H) (hD : va_D (zA K) ws) (hS : va_S (zA K) s.heap H locs) (hH : zHR K ws h) (hL : zLR K ws ls lsC (zmxl y)) (hx0 : zex ws0 ws) (hc : cells + zCn h0 = zCn h) (hsl : slots + zSz h0 = zSz h) (hRc : zCn h + 1 ≤ R.cells + zCn h0) (hRs : zSz h + 6 ≤ R.slots + zSz h0) (hd : decode (zby y) pc = .ok (.new idx, 3))
    (hq : zclk (zow y) idx (zcn ci) = true) (h8 : 8 ≤ ci) (h14 : ci < 14) (hnil : zhh y = []) (d3 : decode (zby y) (pc + 3) = .ok (.dup, 1)) (d4 : decode (zby y) (pc + 4) = .ok (.ldc_w is, 3)) (hstr : zstr (zow y) is = true) (d6 : decode (zby y) (pc + 7) = .ok (.invokespecial ic, 3)) (hml9 : (lw_tbl.any (fun w => decide (w = .methodLink (zcn (zow y)) ic (Bundle.initS (zcn ci))))) = true) (d9 : decode (zby y) (pc + 10) = .ok (.athrow, 1)) :
    W p l e R s m args below meth c H locs cells slots (vx_MQ below (zQ K ws0 (.inr ci, (h.1, h.2 + 1))) (zX K ws0 (.inr ci, (h.1, h.2 + 1))) args s (zCn (h.1, h.2 + 1) - zCn h0) (zSz (h.1, h.2 + 1) - zSz h0) (zA K)) (F0 m pc lsC []) := by
  obtain ⟨hy, hx, hb, hret, hml, hown, hlk, hnm, htab, hCX, hRf, hRl, hst⟩ := id hFC
  obtain ⟨⟨a1, a2⟩, a3, a4⟩ := zthr_atS h8 h14 hml9
  obtain ⟨x0, x1, x2, x5⟩ := zexr_dec ci
  obtain ⟨text, sa, hsa⟩ := zstr_ok hCX hstr
  have hts := hCX.1
  have hkl := zclk_ok hq
  have g1 : zCn (h.1, h.2 + 1) = zCn h + 1 := by simp [zCn]; omega
  have g2 : zSz (h.1, h.2 + 1) = zSz h + 6 := by simp [zSz]; omega
  rw [g1, g2]
  refine ex_makeW (is := is) (sa := sa) (text := text) (rest := []) (A := zA K) hx hb hst x0 x1 x2 x5 hown a3 (hts _ hkl args) (hts _ a1 args) hsa (fun w hw => hts w (a4 w hw).1 args) (fun w hw => ?_) hCX.2.2.2.1 hCX.2.2.2.2.1 hS (by rw [hml]; exact hL.size) hd d3 d4 d6 (by show 2 + 3 < R.frames; omega) (by simp; omega) (by omega) (by omega) (fun q H1 ce hcq hcv hcc hle hsm => ?_)
  · rcases List.mem_cons.mp hw with rfl | hw
    · rfl
    · rcases List.mem_cons.mp hw with rfl | hw
      · exact a2
      · exact (a4 w hw).2
  · refine vx_athrow hx hb d9 ?_
    refine vx_out (E := zcn ci) (fun z hz => ?_) hlk hcq hcv hcc (fun t ht hW => ?_) hS.2.2 (by omega) (by omega)
    · rw [htab hy5, hnil] at hz
      cases hz
    · refine ⟨ci, ws, rfl, rfl, hP.kept (fun k q hk => by rw [ht]; exact hsm q.1 ((hP k q hk).lt)), hD, hH, hx0, ?_, fun q h1 h2 => ?_⟩
      · rw [ht]; exact Nat.le_trans hS.1 hle
      · rw [ht]; exact (hsm q (Nat.lt_of_lt_of_le h1 hS.1)).trans (hS.2.1 q h1 h2)
end THR
