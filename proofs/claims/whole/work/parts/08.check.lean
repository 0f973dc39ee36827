def zdep (y : Nat) : Nat := zdepL.getD y 0
/-! each row of the tables of part 04 is what the bytes say at its place, and its links stand in the tables -/
def hdp (r : List AI) : Nat := match r with
  | (pc, _, _) :: _ => pc
  | [] => 0
def zfl (o idx ci k : Nat) : Bool := zflL.any (fun e => e.1 == o && e.2.1 == idx && e.2.2.1 == ci && e.2.2.2.1 == k)
def zml (o idx y k : Nat) : Bool := zmlL.any (fun e => e.1 == o && e.2.1 == idx && e.2.2.1 == y && e.2.2.2 == k)
def zclk (o idx : Nat) (c : String) : Bool := zclL.any (fun e => e.1 == o && e.2.1 == idx && e.2.2 == c)
def zstr (o idx : Nat) : Bool := zstrL.any (fun e => e.1 == zcn o && e.2.1 == idx)
def zqn (t : Nat) : String := match t with
  | 0 => "java/lang/Object"
  | 1 => "[I"
  | _ => "[J"
def zan (t : Nat) : ArrayType := match t with
  | 0 => .int
  | 1 => .char
  | 2 => .boolean
  | 3 => .long
  | _ => .double
def zexn : List String := ["java/lang/RuntimeException", "java/lang/Exception"]
/-- jumps to label l from pc by off -/
noncomputable def zgo (y pc : Nat) (off : Int) (l : Nat) : Bool := decide ((pc : Int) + off = (hdp (zprog y l) : Int))
/-- the handlers of a call at pc, in the order of the method's table: those that cover it, by class and label -/
noncomputable def zhok (y pc : Nat) (hs : List (Nat × Nat × Nat × Nat)) (x : List Nat) : Bool := match hs with
  | [] => decide (x = [])
  | (s, e, h, ct) :: t => if s ≤ pc ∧ pc < e then (match x with
      | c :: l :: x' => hdp (zprog y l) == h && zclk (zow y) ct (zcn c) && decide (ct ≠ 0) && zhok y pc t x'
      | _ => false) else zhok y pc t x
noncomputable def zmat (y pc : Nat) (i' : Instr) (len : Nat) (i : Instr) (x : List Nat) (r : List AI) : Bool := match i with
  | .iload k => (decide (i' = .iload k) && len == 2 && hdp r == pc + 2) || (match i' with | .iload_n n => n.val == k && len == 1 && hdp r == pc + 1 | _ => false)
  | .lload k => (decide (i' = .lload k) && len == 2 && hdp r == pc + 2) || (match i' with | .lload_n n => n.val == k && len == 1 && hdp r == pc + 1 | _ => false)
  | .aload k => (decide (i' = .aload k) && len == 2 && hdp r == pc + 2) || (match i' with | .aload_n n => n.val == k && len == 1 && hdp r == pc + 1 | _ => false)
  | .istore k => (decide (i' = .istore k) && len == 2 && hdp r == pc + 2) || (match i' with | .istore_n n => n.val == k && len == 1 && hdp r == pc + 1 | _ => false)
  | .lstore k => (decide (i' = .lstore k) && len == 2 && hdp r == pc + 2) || (match i' with | .lstore_n n => n.val == k && len == 1 && hdp r == pc + 1 | _ => false)
  | .astore k => (decide (i' = .astore k) && len == 2 && hdp r == pc + 2) || (match i' with | .astore_n n => n.val == k && len == 1 && hdp r == pc + 1 | _ => false)
  | .fload k => decide (i' = .fload k) && len == 2 && hdp r == pc + 2
  | .dload k => decide (i' = .dload k) && len == 2 && hdp r == pc + 2
  | .fstore k => decide (i' = .fstore k) && len == 2 && hdp r == pc + 2
  | .dstore k => decide (i' = .dstore k) && len == 2 && hdp r == pc + 2
  | .iinc k c => decide (i' = .iinc k c) && len == 3 && hdp r == pc + 3
  | .iconst c => (decide (i' = .iconst c) && len == 1 && hdp r == pc + 1) || (decide (i' = .bipush c) && len == 2 && hdp r == pc + 2) || (decide (i' = .sipush c) && len == 3 && hdp r == pc + 3)
  | .ldc2_w _ => (match i' with
    | .lconst c => x == [c.val, 0] && len == 1 && hdp r == pc + 1
    | .ldc2_w idx => len == 3 && hdp r == pc + 3 && zkjL.any (fun e => e.1 == zow y && e.2.1 == idx && decide (e.2.2 = (if x.getD 1 0 = 1 then -((x.getD 0 0 : Nat) : Int) else ((x.getD 0 0 : Nat) : Int))))
    | _ => false)
  | .ldc _ => (match i' with
    | .ldc idx => len == 2 && hdp r == pc + 2 && zkiL.any (fun e => e.1 == zow y && e.2.1 == idx && decide (e.2.2 = ((x.getD 0 0 : Nat) : Int)))
    | .ldc_w idx => len == 3 && hdp r == pc + 3 && zkiL.any (fun e => e.1 == zow y && e.2.1 == idx && decide (e.2.2 = ((x.getD 0 0 : Nat) : Int)))
    | _ => false)
  | .fconst c => decide (i' = .fconst c) && c.val == 0 && len == 1 && hdp r == pc + 1
  | .dconst c => decide (i' = .dconst c) && c.val == 0 && len == 1 && hdp r == pc + 1
  | .goto _ => (match i' with | .goto off => zgo y pc off (x.getD 0 0) && len == 3 | _ => false)
  | .ifCond c _ => (match i' with | .ifCond c' off => decide (c' = c) && zgo y pc off (x.getD 0 0) && len == 3 && hdp r == pc + 3 | _ => false)
  | .if_icmp c _ => (match i' with | .if_icmp c' off => decide (c' = c) && zgo y pc off (x.getD 0 0) && len == 3 && hdp r == pc + 3 | _ => false)
  | .if_acmp c _ => (match i' with | .if_acmp c' off => decide (c' = c) && decide (c = .eq) && zgo y pc off (x.getD 0 0) && len == 3 && hdp r == pc + 3 | _ => false)
  | .tableswitch _ lo hi _ => (match i' with
    | .tableswitch d lo' hi' offs => decide (lo' = lo) && decide (hi' = hi) && zgo y pc d (x.getD 0 0) && decide (0 ≤ hi - lo) && (List.range ((hi - lo).toNat + 1)).all (fun j => match offs[j]? with | some off => zgo y pc off (x.getD (1 + j) 0) | none => false)
    | _ => false)
  | .getfield _ => (match i' with | .getfield idx => zfl (zow y) idx (x.getD 0 0) (x.getD 1 0) && len == 3 && hdp r == pc + 3 | _ => false)
  | .putfield _ => (match i' with | .putfield idx => zfl (zow y) idx (x.getD 0 0) (x.getD 1 0) && decide ((zfks (x.getD 0 0))[x.getD 1 0]? = some (x.getD 2 0)) && len == 3 && hdp r == pc + 3 | _ => false)
  | .getstatic _ => (match i' with | .getstatic idx => decide (zow y = 7) && decide (idx = 39) && len == 3 && hdp r == pc + 3 | _ => false)
  | .newarray _ => (match i' with | .newarray t => decide (t = zan (x.getD 0 0)) && decide (x.getD 0 0 ≤ 4) && len == 2 && hdp r == pc + 2 | _ => false)
  | .anewarray _ => (match i' with | .anewarray idx => zclk (zow y) idx (zqn (x.getD 0 0)) && decide (x.getD 0 0 ≤ 2) && len == 3 && hdp r == pc + 3 | _ => false)
  | .multianewarray _ d => (match i' with | .multianewarray idx d' => zclk (zow y) idx "[[[J" && d' == d && len == 4 && hdp r == pc + 4 | _ => false)
  | .checkcast _ => (match i' with | .checkcast idx => zclk (zow y) idx (zcn (x.getD 0 0)) && decide (x.getD 0 0 = 0) && len == 3 && hdp r == pc + 3 | _ => false)
  | .new _ => (match i' with
    | .new idx => if x.getD 1 0 = 1 then (zclk (zow y) idx (zcn (x.getD 0 0)) && len == 3 && decide (8 ≤ x.getD 0 0) && decide (x.getD 0 0 < 14) && decide (zhh y = []) && decide (decode (zby y) (pc + 3) = .ok (.dup, 1)) &&
        (match decode (zby y) (pc + 4) with
        | .ok (.ldc is, 2) => zstr (zow y) is && (match decode (zby y) (pc + 6) with
          | .ok (.invokespecial ic, 3) => lw_tbl.any (fun w => decide (w = .methodLink (zcn (zow y)) ic (Bundle.initS (zcn (x.getD 0 0))))) && decide (decode (zby y) (pc + 9) = .ok (.athrow, 1))
          | _ => false)
        | .ok (.ldc_w is, 3) => zstr (zow y) is && (match decode (zby y) (pc + 7) with
          | .ok (.invokespecial ic, 3) => lw_tbl.any (fun w => decide (w = .methodLink (zcn (zow y)) ic (Bundle.initS (zcn (x.getD 0 0))))) && decide (decode (zby y) (pc + 10) = .ok (.athrow, 1))
          | _ => false)
        | _ => false)) else (zclk (zow y) idx (zcn (x.getD 0 0)) && decide (x.getD 0 0 < 8) && len == 3 && hdp r == pc + 3)
    | _ => false)
  | .invokespecial _ => (match i' with
    | .invokespecial idx => len == 3 && hdp r == pc + 3 && (match x with
      | [] => lw_tbl.any (fun w => decide (w = .methodLink (zcn (zow y)) idx objectInit))
      | c :: n :: _ => zml (zow y) idx c 2 && decide (n = zna c + 1) && !zst c && decide (c < 295) && decide (zdep c < zdep y) && decide (zhh c = []) && decide (zrt c = none) && decide ((zyn c).name = "<init>")
      | _ => false)
    | _ => false)
  | .invokestatic _ => (match i' with
    | .invokestatic idx => len == 3 && hdp r == pc + 3 && (match x with
      | [] => decide (zow y = 7) && decide (idx = 66)
      | [k] => zmtL.any (fun e => e.1 == zow y && e.2.1 == idx && e.2.2 == k)
      | c :: n :: hs => (zml (zow y) idx c 1 || zml (zow y) idx c 5) && decide (n = zna c) && zst c && decide (c < 295) && decide (zdep c < zdep y) && zhok y pc (zhh y) hs)
    | _ => false)
  | .invokevirtual _ => (match i' with
    | .invokevirtual idx => len == 3 && hdp r == pc + 3 && (match x with
      | c :: n :: ci :: hs => zml (zow y) idx c 0 && decide (n = zna c + 1) && !zst c && decide (c < 295) && decide (zdep c < zdep y) && decide (zhh c = []) && decide ((zyn c).cls = zcn ci) && decide (ci < 8) && zhok y pc (zhh y) hs && zat (zpl c).2.2.2 (.selects (zyn c).cls (zyn c) (zyn c))
      | _ => false)
    | .invokeinterface idx _ => len == 5 && hdp r == pc + 5 && (match x with
      | c :: n :: ci :: hs => zml (zow y) idx c 3 && decide (n = zna c + 1) && !zst c && decide (c < 295) && decide (zdep c < zdep y) && decide (zhh c = []) && decide (ci = 7) && decide (hs = []) && decide (zhh y = [])
      | _ => false)
    | _ => false)
  | .athrow => true
  | .ireturn => decide (i' = .ireturn) && len == 1 && decide (zrt y = some (match x.getD 0 0 with | 0 => .int | 1 => .char | _ => .boolean)) && decide (x.getD 0 0 ≤ 2)
  | .lreturn => decide (i' = .lreturn) && len == 1 && decide (zrt y = some .long)
  | .freturn => decide (i' = .freturn) && len == 1 && decide (zrt y = some .float)
  | .dreturn => decide (i' = .dreturn) && len == 1 && decide (zrt y = some .double)
  | .areturn => decide (i' = .areturn) && len == 1 && (match zrt y with | some (.object _) => true | some (.array _) => true | _ => false)
  | .return_ => decide (i' = .return_) && len == 1 && decide (zrt y = none)
  | i => decide (i' = i) && len == 1 && hdp r == pc + 1
noncomputable def zck1 (y pc : Nat) (i : Instr) (x : List Nat) (r : List AI) : Bool := match i with
  | .nop => hdp (zprog y (x.getD 0 0)) == pc
  | .athrow => true
  | i => (match decode (zby y) pc with
    | .ok (i', len) => zmat y pc i' len i x r
    | _ => false)
noncomputable def zckB (y : Nat) : List AI → Bool
  | [] => true
  | (pc, i, x) :: r => zck1 y pc i x r && zckB y r
noncomputable def zckY (y : Nat) : Bool := (zpg.getD y []).all (zckB y)
set_option maxRecDepth 100000 in
theorem zckY_a_0 : (List.range' 0 15).all zckY = true := by decide +kernel
set_option maxRecDepth 100000 in
theorem zckY_a_1 : (List.range' 15 15).all zckY = true := by decide +kernel
set_option maxRecDepth 100000 in
theorem zckY_a_2 : (List.range' 30 15).all zckY = true := by decide +kernel
set_option maxRecDepth 100000 in
theorem zckY_a_3 : (List.range' 45 15).all zckY = true := by decide +kernel
set_option maxRecDepth 100000 in
theorem zckY_a : (List.range 60).all zckY = true := by
  rw [show List.range 60 = List.range' 0 15 ++ List.range' 15 15 ++ List.range' 30 15 ++ List.range' 45 15 from rfl]
  simp only [List.all_append, Bool.and_eq_true]
  exact ⟨⟨⟨zckY_a_0, zckY_a_1⟩, zckY_a_2⟩, zckY_a_3⟩
