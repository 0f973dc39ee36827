/-! the steps that simp decides: branches, cells, lists -/
section
variable {scr : List Int} {m pc : Nat} {r : List AI} {ls : Lc} {st : Sk} {h : Hp} {P : Rs → Prop}
theorem py_if_eq_t {a o : Int} {L : Nat} (h9 : (a = 0) ∧ -2147483648 ≤ a ∧ a < 2147483648) : Py scr m ((pc, .ifCond .eq o, [L]) :: r) ls (.inl a :: st) h P = Py scr m (zprog m L) ls st h P := by
  rw [py_if_eq, nrm_id h9.2.1 h9.2.2]
  exact if_pos h9.1
theorem py_ic_eq_t {a b o : Int} {L : Nat} (h9 : (a = b) ∧ -2147483648 ≤ a ∧ a < 2147483648 ∧ -2147483648 ≤ b ∧ b < 2147483648) : Py scr m ((pc, .if_icmp .eq o, [L]) :: r) ls (.inl b :: .inl a :: st) h P = Py scr m (zprog m L) ls st h P := by
  rw [py_ic_eq, nrm_id h9.2.1 h9.2.2.1, nrm_id h9.2.2.2.1 h9.2.2.2.2]
  exact if_pos h9.1
theorem py_if_eq_f {a o : Int} {L : Nat} (h9 : (¬ a = 0) ∧ -2147483648 ≤ a ∧ a < 2147483648) : Py scr m ((pc, .ifCond .eq o, [L]) :: r) ls (.inl a :: st) h P = Py scr m r ls st h P := by
  rw [py_if_eq, nrm_id h9.2.1 h9.2.2]
  exact if_neg h9.1
theorem py_ic_eq_f {a b o : Int} {L : Nat} (h9 : (¬ a = b) ∧ -2147483648 ≤ a ∧ a < 2147483648 ∧ -2147483648 ≤ b ∧ b < 2147483648) : Py scr m ((pc, .if_icmp .eq o, [L]) :: r) ls (.inl b :: .inl a :: st) h P = Py scr m r ls st h P := by
  rw [py_ic_eq, nrm_id h9.2.1 h9.2.2.1, nrm_id h9.2.2.2.1 h9.2.2.2.2]
  exact if_neg h9.1
theorem py_if_ne_t {a o : Int} {L : Nat} (h9 : (¬ a = 0) ∧ -2147483648 ≤ a ∧ a < 2147483648) : Py scr m ((pc, .ifCond .ne o, [L]) :: r) ls (.inl a :: st) h P = Py scr m (zprog m L) ls st h P := by
  rw [py_if_ne, nrm_id h9.2.1 h9.2.2]
  exact if_pos h9.1
theorem py_ic_ne_t {a b o : Int} {L : Nat} (h9 : (¬ a = b) ∧ -2147483648 ≤ a ∧ a < 2147483648 ∧ -2147483648 ≤ b ∧ b < 2147483648) : Py scr m ((pc, .if_icmp .ne o, [L]) :: r) ls (.inl b :: .inl a :: st) h P = Py scr m (zprog m L) ls st h P := by
  rw [py_ic_ne, nrm_id h9.2.1 h9.2.2.1, nrm_id h9.2.2.2.1 h9.2.2.2.2]
  exact if_pos h9.1
theorem py_if_ne_f {a o : Int} {L : Nat} (h9 : (a = 0) ∧ -2147483648 ≤ a ∧ a < 2147483648) : Py scr m ((pc, .ifCond .ne o, [L]) :: r) ls (.inl a :: st) h P = Py scr m r ls st h P := by
  rw [py_if_ne, nrm_id h9.2.1 h9.2.2]
  exact if_neg (fun h8 => h8 h9.1)
theorem py_ic_ne_f {a b o : Int} {L : Nat} (h9 : (a = b) ∧ -2147483648 ≤ a ∧ a < 2147483648 ∧ -2147483648 ≤ b ∧ b < 2147483648) : Py scr m ((pc, .if_icmp .ne o, [L]) :: r) ls (.inl b :: .inl a :: st) h P = Py scr m r ls st h P := by
  rw [py_ic_ne, nrm_id h9.2.1 h9.2.2.1, nrm_id h9.2.2.2.1 h9.2.2.2.2]
  exact if_neg (fun h8 => h8 h9.1)
theorem py_if_lt_t {a o : Int} {L : Nat} (h9 : (a < 0) ∧ -2147483648 ≤ a ∧ a < 2147483648) : Py scr m ((pc, .ifCond .lt o, [L]) :: r) ls (.inl a :: st) h P = Py scr m (zprog m L) ls st h P := by
  rw [py_if_lt, nrm_id h9.2.1 h9.2.2]
  exact if_pos h9.1
theorem py_ic_lt_t {a b o : Int} {L : Nat} (h9 : (a < b) ∧ -2147483648 ≤ a ∧ a < 2147483648 ∧ -2147483648 ≤ b ∧ b < 2147483648) : Py scr m ((pc, .if_icmp .lt o, [L]) :: r) ls (.inl b :: .inl a :: st) h P = Py scr m (zprog m L) ls st h P := by
  rw [py_ic_lt, nrm_id h9.2.1 h9.2.2.1, nrm_id h9.2.2.2.1 h9.2.2.2.2]
  exact if_pos h9.1
theorem py_if_lt_f {a o : Int} {L : Nat} (h9 : (0 ≤ a) ∧ -2147483648 ≤ a ∧ a < 2147483648) : Py scr m ((pc, .ifCond .lt o, [L]) :: r) ls (.inl a :: st) h P = Py scr m r ls st h P := by
  rw [py_if_lt, nrm_id h9.2.1 h9.2.2]
  exact if_neg (by omega)
theorem py_ic_lt_f {a b o : Int} {L : Nat} (h9 : (b ≤ a) ∧ -2147483648 ≤ a ∧ a < 2147483648 ∧ -2147483648 ≤ b ∧ b < 2147483648) : Py scr m ((pc, .if_icmp .lt o, [L]) :: r) ls (.inl b :: .inl a :: st) h P = Py scr m r ls st h P := by
  rw [py_ic_lt, nrm_id h9.2.1 h9.2.2.1, nrm_id h9.2.2.2.1 h9.2.2.2.2]
  exact if_neg (by omega)
theorem py_if_ge_t {a o : Int} {L : Nat} (h9 : (0 ≤ a) ∧ -2147483648 ≤ a ∧ a < 2147483648) : Py scr m ((pc, .ifCond .ge o, [L]) :: r) ls (.inl a :: st) h P = Py scr m (zprog m L) ls st h P := by
  rw [py_if_ge, nrm_id h9.2.1 h9.2.2]
  exact if_pos h9.1
theorem py_ic_ge_t {a b o : Int} {L : Nat} (h9 : (b ≤ a) ∧ -2147483648 ≤ a ∧ a < 2147483648 ∧ -2147483648 ≤ b ∧ b < 2147483648) : Py scr m ((pc, .if_icmp .ge o, [L]) :: r) ls (.inl b :: .inl a :: st) h P = Py scr m (zprog m L) ls st h P := by
  rw [py_ic_ge, nrm_id h9.2.1 h9.2.2.1, nrm_id h9.2.2.2.1 h9.2.2.2.2]
  exact if_pos h9.1
theorem py_if_ge_f {a o : Int} {L : Nat} (h9 : (a < 0) ∧ -2147483648 ≤ a ∧ a < 2147483648) : Py scr m ((pc, .ifCond .ge o, [L]) :: r) ls (.inl a :: st) h P = Py scr m r ls st h P := by
  rw [py_if_ge, nrm_id h9.2.1 h9.2.2]
  exact if_neg (by omega)
theorem py_ic_ge_f {a b o : Int} {L : Nat} (h9 : (a < b) ∧ -2147483648 ≤ a ∧ a < 2147483648 ∧ -2147483648 ≤ b ∧ b < 2147483648) : Py scr m ((pc, .if_icmp .ge o, [L]) :: r) ls (.inl b :: .inl a :: st) h P = Py scr m r ls st h P := by
  rw [py_ic_ge, nrm_id h9.2.1 h9.2.2.1, nrm_id h9.2.2.2.1 h9.2.2.2.2]
  exact if_neg (by omega)
theorem py_if_gt_t {a o : Int} {L : Nat} (h9 : (0 < a) ∧ -2147483648 ≤ a ∧ a < 2147483648) : Py scr m ((pc, .ifCond .gt o, [L]) :: r) ls (.inl a :: st) h P = Py scr m (zprog m L) ls st h P := by
  rw [py_if_gt, nrm_id h9.2.1 h9.2.2]
  exact if_pos h9.1
theorem py_ic_gt_t {a b o : Int} {L : Nat} (h9 : (b < a) ∧ -2147483648 ≤ a ∧ a < 2147483648 ∧ -2147483648 ≤ b ∧ b < 2147483648) : Py scr m ((pc, .if_icmp .gt o, [L]) :: r) ls (.inl b :: .inl a :: st) h P = Py scr m (zprog m L) ls st h P := by
  rw [py_ic_gt, nrm_id h9.2.1 h9.2.2.1, nrm_id h9.2.2.2.1 h9.2.2.2.2]
  exact if_pos h9.1
theorem py_if_gt_f {a o : Int} {L : Nat} (h9 : (a ≤ 0) ∧ -2147483648 ≤ a ∧ a < 2147483648) : Py scr m ((pc, .ifCond .gt o, [L]) :: r) ls (.inl a :: st) h P = Py scr m r ls st h P := by
  rw [py_if_gt, nrm_id h9.2.1 h9.2.2]
  exact if_neg (by omega)
theorem py_ic_gt_f {a b o : Int} {L : Nat} (h9 : (a ≤ b) ∧ -2147483648 ≤ a ∧ a < 2147483648 ∧ -2147483648 ≤ b ∧ b < 2147483648) : Py scr m ((pc, .if_icmp .gt o, [L]) :: r) ls (.inl b :: .inl a :: st) h P = Py scr m r ls st h P := by
  rw [py_ic_gt, nrm_id h9.2.1 h9.2.2.1, nrm_id h9.2.2.2.1 h9.2.2.2.2]
  exact if_neg (by omega)
theorem py_if_le_t {a o : Int} {L : Nat} (h9 : (a ≤ 0) ∧ -2147483648 ≤ a ∧ a < 2147483648) : Py scr m ((pc, .ifCond .le o, [L]) :: r) ls (.inl a :: st) h P = Py scr m (zprog m L) ls st h P := by
  rw [py_if_le, nrm_id h9.2.1 h9.2.2]
  exact if_pos h9.1
theorem py_ic_le_t {a b o : Int} {L : Nat} (h9 : (a ≤ b) ∧ -2147483648 ≤ a ∧ a < 2147483648 ∧ -2147483648 ≤ b ∧ b < 2147483648) : Py scr m ((pc, .if_icmp .le o, [L]) :: r) ls (.inl b :: .inl a :: st) h P = Py scr m (zprog m L) ls st h P := by
  rw [py_ic_le, nrm_id h9.2.1 h9.2.2.1, nrm_id h9.2.2.2.1 h9.2.2.2.2]
  exact if_pos h9.1
theorem py_if_le_f {a o : Int} {L : Nat} (h9 : (0 < a) ∧ -2147483648 ≤ a ∧ a < 2147483648) : Py scr m ((pc, .ifCond .le o, [L]) :: r) ls (.inl a :: st) h P = Py scr m r ls st h P := by
  rw [py_if_le, nrm_id h9.2.1 h9.2.2]
  exact if_neg (by omega)
theorem py_ic_le_f {a b o : Int} {L : Nat} (h9 : (b < a) ∧ -2147483648 ≤ a ∧ a < 2147483648 ∧ -2147483648 ≤ b ∧ b < 2147483648) : Py scr m ((pc, .if_icmp .le o, [L]) :: r) ls (.inl b :: .inl a :: st) h P = Py scr m r ls st h P := by
  rw [py_ic_le, nrm_id h9.2.1 h9.2.2.1, nrm_id h9.2.2.2.1 h9.2.2.2.2]
  exact if_neg (by omega)
theorem nrm_i {x : Int} (h : -2147483648 ≤ x ∧ x < 2147483648) : nrm x = x := nrm_id h.1 h.2
theorem nrL_i {x : Int} (h : -9223372036854775808 ≤ x ∧ x < 9223372036854775808) : nrL x = x := nrL_id h.1 h.2
theorem yF_r (cap : Nat) (xs : List Int) : yF (some (rW cap xs)) 4 1 = some (.inl (xs.length : Int)) := by
  unfold yF
  rw [yrw_rW]
  rfl
theorem yrw_o {c : Nat} {fs : List AV} (hc : c < 99) : yrw (some (.inl (c, fs))) = none := if_neg (by omega)
theorem yF_o {c k : Nat} {fs : List AV} (hc : c < 99) : yF (some (.inl (c, fs))) c k = fs[k]? := by
  unfold yF
  rw [yrw_o hc]
  exact if_pos rfl
theorem yG_o {c k : Nat} {fs : List AV} {v : AV} (hc : c < 99) : yG (some (.inl (c, fs))) c k v = if k < fs.length then some (.inl (c, fs.set k v)) else none := by
  unfold yG
  rw [yrw_o hc]
  simp
theorem yP_o {c k : Nat} {fs : List AV} {v : Int} (hc : c < 99) : yP (some (.inl (c, fs))) c k v = if k < fs.length then some (.inl (c, fs.set k (.inl v))) else none := by
  unfold yP
  rw [yrw_o hc]
  exact yG_o hc
theorem yP_r {cap : Nat} {xs : List Int} {v : Int} (hv : 0 ≤ v ∧ v ≤ (xs.length : Int)) : yP (some (rW cap xs)) 4 1 v = some (rW cap (xs.take v.toNat)) := by
  unfold yP
  rw [yrw_rW]
  exact if_pos ⟨rfl, rfl, hv⟩
theorem yC_r (cap : Nat) (xs : List Int) : yC (some (rW cap xs)) 4 = true := by
  unfold yC
  rw [yrw_rW]
  rfl
theorem yC_o {c : Nat} {fs : List AV} (hc : c < 99) : yC (some (.inl (c, fs))) c = true := by
  unfold yC
  rw [yrw_o hc]
  simp
theorem zisc_o {c : Nat} {fs : List AV} : zisc (some (.inl (c, fs))) c = true := by simp [zisc]
theorem yr1_s {q : Nat × List Int} : yr1 (some q) = some (.inl (q.2.length : Int)) := rfl
theorem yr2_s {q : Nat × List Int} {i : Int} (hi : -2147483648 ≤ i ∧ i < 2147483648) : yr2 (some q) i = some (.inl (yat q.2 i)) := if_pos (zrB_t hi.1 hi.2)
theorem yr3_s {q : Nat × List Int} {i v : Int} (hi : -2147483648 ≤ i ∧ i < 2147483648) : yr3 (some q) i v = some (rW q.1 (yput q.2 i v)) := if_pos (zrB_t hi.1 hi.2)
theorem yr4_s {q : Nat × List Int} {v : Int} : yr4 (some q) v = some (rW q.1 (yadd q.1 q.2 v)) := rfl
theorem yr8_s {q : Nat × List Int} {i v : Int} (hi : 0 ≤ i ∧ i ≤ (q.1 : Int) ∧ i < 2147483648) : yr8 (some q) i v = some (rW q.1 (List.replicate i.toNat v)) := if_pos ⟨zrB_t (by omega) hi.2.2, hi.1, hi.2.1⟩
theorem yfr_o {f0 f1 : AV} : yfr (some (.inl (4, [f0, f1]))) = true := rfl
theorem yI_s {t : Nat} {xs : List Int} {i : Int} (hi : 0 ≤ i ∧ i < (xs.length : Int) ∧ i < 2147483648) : yI (some (.inr (.inl (t, xs)))) t i = some (xs.getD i.toNat 0) := by
  unfold yI
  dsimp only
  rw [if_pos ⟨rfl, hi⟩, List.getD_eq_getElem?_getD, List.getElem?_eq_getElem (by omega)]
  rfl
theorem yJ_s {t : Nat} {xs : List Int} {i v : Int} (hi : 0 ≤ i ∧ i < (xs.length : Int) ∧ i < 2147483648) : yJ (some (.inr (.inl (t, xs)))) t i v = some (.inr (.inl (t, xs.set i.toNat v))) := if_pos ⟨rfl, hi⟩
theorem yL_s {xs : List Int} {i : Int} (hi : 0 ≤ i ∧ i < (xs.length : Int) ∧ i < 2147483648) : yL (some (.inr (.inr (.inl xs)))) i = some (xs.getD i.toNat 0) := by
  unfold yL
  dsimp only
  rw [if_pos hi, List.getD_eq_getElem?_getD, List.getElem?_eq_getElem (by omega)]
  rfl
theorem yM_s {xs : List Int} {i v : Int} (hi : 0 ≤ i ∧ i < (xs.length : Int) ∧ i < 2147483648) : yM (some (.inr (.inr (.inl xs)))) i v = some (.inr (.inr (.inl (xs.set i.toNat v)))) := if_pos hi
theorem yD_s {xs : List UInt64} {i : Int} (hi : 0 ≤ i ∧ i < (xs.length : Int) ∧ i < 2147483648) : yD (some (.inr (.inr (.inr (.inl xs))))) i = some (xs.getD i.toNat 0) := by
  unfold yD
  dsimp only
  rw [if_pos hi, List.getD_eq_getElem?_getD, List.getElem?_eq_getElem (by omega)]
  rfl
theorem yE_s {xs : List UInt64} {i : Int} {v : UInt64} (hi : 0 ≤ i ∧ i < (xs.length : Int) ∧ i < 2147483648) : yE (some (.inr (.inr (.inr (.inl xs))))) i v = some (.inr (.inr (.inr (.inl (xs.set i.toNat v))))) := if_pos hi
theorem yQ_s {t : Nat} {xs : List (Option Nat)} {i : Int} (hi : 0 ≤ i ∧ i < (xs.length : Int) ∧ i < 2147483648) : yQ (some (.inr (.inr (.inr (.inr (t, xs)))))) i = some (xs.getD i.toNat none) := by
  unfold yQ
  dsimp only
  rw [if_pos hi, List.getD_eq_getElem?_getD, List.getElem?_eq_getElem (by omega)]
  rfl
theorem yUn_s {t : Nat} {xs : List (Option Nat)} {i : Int} {d : Option AC} (hi : 0 ≤ i ∧ i < (xs.length : Int) ∧ i < 2147483648) : yU (some (.inr (.inr (.inr (.inr (t, xs)))))) d i none = some (.inr (.inr (.inr (.inr (t, xs.set i.toNat none))))) := if_pos ⟨hi.1, hi.2.1, hi.2.2, Or.inl rfl⟩
theorem yUs_s {t k : Nat} {xs : List (Option Nat)} {i : Int} {d : Option AC} (hi : 0 ≤ i ∧ i < (xs.length : Int) ∧ i < 2147483648) (hd : zfit t d = true) : yU (some (.inr (.inr (.inr (.inr (t, xs)))))) d i (some k) = some (.inr (.inr (.inr (.inr (t, xs.set i.toNat (some k)))))) := if_pos ⟨hi.1, hi.2.1, hi.2.2, Or.inr hd⟩
theorem yN_I {t : Nat} {xs : List Int} : yN (some (.inr (.inl (t, xs)))) = some (xs.length : Int) := rfl
theorem yN_L {xs : List Int} : yN (some (.inr (.inr (.inl xs)))) = some (xs.length : Int) := rfl
theorem yN_D {xs : List UInt64} : yN (some (.inr (.inr (.inr (.inl xs))))) = some (xs.length : Int) := rfl
theorem yN_Q {t : Nat} {xs : List (Option Nat)} : yN (some (.inr (.inr (.inr (.inr (t, xs)))))) = some (xs.length : Int) := rfl
end
-- lists of a row
theorem yat_n (xs : List Int) (k : Nat) : yat xs (k : Int) = xs.getD k 0 := by
  unfold yat
  rw [if_pos (by omega), Int.toNat_natCast]
theorem yat_i (xs : List Int) {i : Int} (h : 0 ≤ i) : yat xs i = xs.getD i.toNat 0 := if_pos h
theorem yat_out (xs : List Int) {i : Int} (h : i < 0 ∨ (xs.length : Int) ≤ i) : yat xs i = 0 := by
  unfold yat
  split
  · rw [List.getD_eq_getElem?_getD, List.getElem?_eq_none (by omega)]; rfl
  · rfl
theorem yput_n (xs : List Int) (k : Nat) (v : Int) : yput xs (k : Int) v = xs.set k v := by
  unfold yput
  rw [if_pos (by omega), Int.toNat_natCast]
theorem yput_i (xs : List Int) {i : Int} (v : Int) (h : 0 ≤ i) : yput xs i v = xs.set i.toNat v := if_pos h
theorem yput_len (xs : List Int) (i v : Int) : (yput xs i v).length = xs.length := by
  unfold yput
  split <;> simp
theorem yadd_lt {cap : Nat} {xs : List Int} {v : Int} (h : xs.length < cap) : yadd cap xs v = xs ++ [v] := if_pos h
theorem yadd_take {cap k : Nat} {ys : List Int} (h : k < ys.length ∧ ys.length ≤ cap) : yadd cap (ys.take k) (yat ys (k : Int)) = ys.take (k + 1) := by
  rw [yadd_lt (by simp; omega), yat_n, List.take_add_one, List.getElem?_eq_getElem h.1, List.getD_eq_getElem?_getD, List.getElem?_eq_getElem h.1]
  rfl
