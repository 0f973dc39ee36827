/-! which words of the tables pass on to every frame, and that the tables of part 06 stand in lw_tbl -/
def zgood (w : Jvm.Cond) : Bool := (w.onTables && w.keepsFace) || (match w with
  | .arrayClass _ => true
  | .arrayOver _ => true
  | .methodLinkNest .. => true
  | .fieldLinkNest .. => true
  | _ => false)
theorem zgood_mv {w : Jvm.Cond} (h : zgood w = true) {a a' : Array Value} {s U : State} (hW : s.WarmedH U.vm) (hb : w.before a s = true) : w.before a' U = true := by
  have tab : ∀ {w : Jvm.Cond}, w.onTables = true → w.before a (s.setVm U.vm) = true → w.before a' U = true := fun hc h1 => va_tabs hc (rfl : (s.setVm U.vm).vm = U.vm) h1
  unfold zgood at h
  rcases Bool.or_eq_true_iff.mp h with h | h
  · simp only [Bool.and_eq_true] at h
    exact tab h.1 (Cond.before_shiftedFace (State.Shifted.of_warmed hW) w h.2 hb)
  · cases w with
    | arrayClass t => exact word_at hW (Or.inr ⟨t, rfl⟩) hb
    | arrayOver t =>
      have hal := hW.alike
      cases t with
      | object C => exact (va_AO.moved hal (va_AO.of (A := a) hb)).use
      | array t =>
        obtain ⟨comp, c, k, h1, h2, h3, h4, h5⟩ := arrayOverA_spec (show (Jvm.Cond.arrayOver (.array t)).holds a s none s [] = true from hb)
        obtain ⟨k', hk', he⟩ := hal.2.2 _ _ h3
        have hi : (U.vm.classes.findIdx? fun (x : Class) => match x.kind with | .array component _ => component == comp | _ => false) = some c := by
          rw [hal.findIdx?_eq _ (fun _ => rfl)]
          exact h2
        have hkind : k'.kind = .array comp (.array t) := by rw [he]; exact h4
        have f1 : U.vm.findClass (FieldType.array t).toString = some comp := by rw [hal.findClass]; exact h1
        have f2 : U.vm.findClass ("[" ++ (FieldType.array t).toString) = some c := by rw [hal.findClass]; exact h5
        unfold Cond.before Cond.holds
        simp only [Cond.value]
        rw [f1, Option.bind_some]
        refine (congrArg (fun o : Option Nat => (o.bind (fun c => (U.vm.classes[c]?).map fun (k : Class) => match k.kind with | .array _ ty => decide (ty = FieldType.array t) && decide (U.vm.findClass ("[" ++ (FieldType.array t).toString) = some c) | _ => false) == some true)) hi).trans ?_
        simp [hk', hkind, f2]
      | _ => exact absurd hb (by simp [Cond.before, Cond.holds, Cond.value])
    | methodLinkNest o i x hst => exact tab rfl (Cond.methodLinkNest_warmed (args := a) hW hb)
    | fieldLinkNest o i r n d hst => exact tab rfl (Cond.fieldLinkNest_warmed (args := a) hW hb)
    | _ => simp at h
def zW : List Jvm.Cond := lw_tbl.filter zgood
theorem zW_mem {i : Nat} {w : Jvm.Cond} (h : lw_tbl[i]? = some w) (hg : zgood w = true) : w ∈ zW := List.mem_filter.mpr ⟨List.mem_of_getElem? h, hg⟩
def zat (i : Nat) (w : Jvm.Cond) : Bool := decide (lw_tbl[i]? = some w) && zgood w
theorem zat_mem {i : Nat} {w : Jvm.Cond} (h : zat i w = true) : w ∈ zW := by
  simp only [zat, Bool.and_eq_true, decide_eq_true_eq] at h
  exact zW_mem h.1 h.2
def zpl (y : Nat) : Nat × Nat × Nat × Nat := zplL.getD y (0, 0, 0, 0)
def zbyo (o : Option Jvm.Cond) : ByteArray := match o with
  | some (.code _ b _ _) => b
  | some (.codeWith _ b _ _ _) => b
  | _ => cX4_init
/-- a method's bytes, out of the tables' own word -/
def zby (y : Nat) : ByteArray := if y = 295 then code else zbyo lw_tbl[(zpl y).1]?
def zcw (y : Nat) : Jvm.Cond := if zhh y = [] then .code (zyn y) (zby y) (zmxl y) (zrt y) else .codeWith (zyn y) (zby y) (zmxl y) (zrt y) (zhh y)
def zcwB (o : Option Jvm.Cond) (y : Nat) : Bool := match o with
  | some (.code n _ k r) => decide (n = zyn y) && decide (k = zmxl y) && decide (r = zrt y) && decide (zhh y = [])
  | some (.codeWith n _ k r hh) => decide (n = zyn y) && decide (k = zmxl y) && decide (r = zrt y) && decide (zhh y = hh) && decide (¬ hh = [])
  | _ => false
theorem zcw_of {y : Nat} (hy : y < 295) (h : zcwB lw_tbl[(zpl y).1]? y = true) : lw_tbl[(zpl y).1]? = some (zcw y) := by
  have hb : zby y = zbyo lw_tbl[(zpl y).1]? := by unfold zby; rw [if_neg (by omega)]
  unfold zcw
  rw [hb]
  revert h
  generalize lw_tbl[(zpl y).1]? = o
  intro h
  unfold zcwB at h
  split at h
  · simp only [Bool.and_eq_true, decide_eq_true_eq] at h
    rw [if_pos h.2, h.1.1.1, h.1.1.2, h.1.2]
    rfl
  · simp only [Bool.and_eq_true, decide_eq_true_eq] at h
    rw [h.1.2, if_neg h.2, h.1.1.1.1, h.1.1.1.2, h.1.1.2]
    rfl
  · cases h
def zckM (y : Nat) : Bool := zcwB lw_tbl[(zpl y).1]? y && zat (zpl y).2.1 (.initialized (zyn y).cls) && (if zst y = true then zat (zpl y).2.2.1 (.static (zyn y)) else zat (zpl y).2.2.1 (.instanceMethod (zyn y)))
  && decide ((zyn y).cls ≠ "java/lang/invoke/MethodHandle") && decide ((zyn y).cls ≠ "java/lang/invoke/VarHandle") && decide ((parseMethodDescriptor (zyn y).desc).map (fun d => d.parameters.length) = some (zna y)) && plainName (zyn y).cls && decide (zcn (zow y) = (zyn y).cls)
  && decide (zmxl y ≤ 40)
set_option maxRecDepth 100000 in
theorem zck_1 : (List.range 295).all (fun y => zcwB lw_tbl[(zpl y).1]? y) = true := by decide +kernel
set_option maxRecDepth 100000 in
theorem zck_2 : (List.range 295).all (fun y => zat (zpl y).2.1 (.initialized (zyn y).cls)) = true := by decide +kernel
set_option maxRecDepth 100000 in
theorem zck_3 : (List.range 295).all (fun y => if zst y = true then zat (zpl y).2.2.1 (.static (zyn y)) else zat (zpl y).2.2.1 (.instanceMethod (zyn y))) = true := by decide +kernel
set_option maxRecDepth 100000 in
theorem zck_4 : (List.range 295).all (fun y => decide ((zyn y).cls ≠ "java/lang/invoke/MethodHandle") && decide ((zyn y).cls ≠ "java/lang/invoke/VarHandle")) = true := by decide +kernel
set_option maxRecDepth 100000 in
theorem zck_5 : (List.range 295).all (fun y => decide ((parseMethodDescriptor (zyn y).desc).map (fun d => d.parameters.length) = some (zna y))) = true := by decide +kernel
set_option maxRecDepth 100000 in
theorem zck_6 : (List.range 295).all (fun y => plainName (zyn y).cls) = true := by decide +kernel
set_option maxRecDepth 100000 in
theorem zck_7 : (List.range 295).all (fun y => decide (zcn (zow y) = (zyn y).cls) && decide (zmxl y ≤ 40)) = true := by decide +kernel
def zmlw (e : Nat × Nat × Nat × Nat) : Jvm.Cond := match e.2.2.2 with
  | 3 => .methodLink (zcn e.1) e.2.1 ((zifL.find? (fun q => q.1 == e.2.2.1)).map (·.2) |>.getD (zyn 0))
  | 5 => .methodLinkNest (zcn e.1) e.2.1 (zyn e.2.2.1) "Shortsign"
  | _ => .methodLink (zcn e.1) e.2.1 (zyn e.2.2.1)
set_option maxRecDepth 100000 in
theorem zckL_all : (zmlL.zip zmlP).all (fun q => zat q.2 (zmlw q.1)) = true := by decide +kernel
