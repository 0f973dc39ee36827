/-! the machine itself -/
/-- the number that the machine's int has -/
def nrm (x : Int) : Int := Int.bmod x 4294967296
def nrL (x : Int) : Int := Int.bmod x 18446744073709551616
def zwide (v : AV) : Bool := match v with
  | .inr (.inl _) => true
  | .inr (.inr (.inr (.inr (.inl _)))) => true
  | _ => false
def zclean (old : Lc) (i : Nat) (l : Lc) : Lc := match i with
  | 0 => l
  | j + 1 => match old.getD j none with
    | some w => if zwide w = true then l.set j none else l
    | none => l
def zset (ls : Lc) (i : Nat) (v : AV) : Option Lc := if zwide v = true then (if i + 1 < ls.length then some (zclean ls i ((ls.set i (some v)).set (i + 1) none)) else none) else (if i < ls.length then some (zclean ls i (ls.set i (some v))) else none)
def zlay : List AV → Lc
  | [] => []
  | v :: vs => if zwide v = true then some v :: none :: zlay vs else some v :: zlay vs
-- reads and writes
def rdF (h : Hp) (a ci k : Nat) : Option AV := match h.1[a]? with
  | some (.inl (c, fs)) => if c = ci then fs[k]? else none
  | _ => none
def wrF (h : Hp) (a ci k : Nat) (v : AV) : Option Hp := match h.1[a]? with
  | some (.inl (c, fs)) => if c = ci ∧ k < fs.length then some (h.1.set a (.inl (c, fs.set k v)), h.2) else none
  | _ => none
def rdI (h : Hp) (a t : Nat) (i : Int) : Option Int := match h.1[a]? with
  | some (.inr (.inl (t', xs))) => if t' = t ∧ 0 ≤ i ∧ i < (xs.length : Int) ∧ i < 2147483648 then xs[i.toNat]? else none
  | _ => none
def wrI (h : Hp) (a t : Nat) (i x : Int) : Option Hp := match h.1[a]? with
  | some (.inr (.inl (t', xs))) => if t' = t ∧ 0 ≤ i ∧ i < (xs.length : Int) ∧ i < 2147483648 then some (h.1.set a (.inr (.inl (t', xs.set i.toNat x))), h.2) else none
  | _ => none
def rdL (h : Hp) (a : Nat) (i : Int) : Option Int := match h.1[a]? with
  | some (.inr (.inr (.inl xs))) => if 0 ≤ i ∧ i < (xs.length : Int) ∧ i < 2147483648 then xs[i.toNat]? else none
  | _ => none
def wrL (h : Hp) (a : Nat) (i x : Int) : Option Hp := match h.1[a]? with
  | some (.inr (.inr (.inl xs))) => if 0 ≤ i ∧ i < (xs.length : Int) ∧ i < 2147483648 then some (h.1.set a (.inr (.inr (.inl (xs.set i.toNat x)))), h.2) else none
  | _ => none
def rdD (h : Hp) (a : Nat) (i : Int) : Option UInt64 := match h.1[a]? with
  | some (.inr (.inr (.inr (.inl xs)))) => if 0 ≤ i ∧ i < (xs.length : Int) ∧ i < 2147483648 then xs[i.toNat]? else none
  | _ => none
def wrD (h : Hp) (a : Nat) (i : Int) (x : UInt64) : Option Hp := match h.1[a]? with
  | some (.inr (.inr (.inr (.inl xs)))) => if 0 ≤ i ∧ i < (xs.length : Int) ∧ i < 2147483648 then some (h.1.set a (.inr (.inr (.inr (.inl (xs.set i.toNat x))))), h.2) else none
  | _ => none
def rdQ (h : Hp) (a : Nat) (i : Int) : Option (Option Nat) := match h.1[a]? with
  | some (.inr (.inr (.inr (.inr (_, xs))))) => if 0 ≤ i ∧ i < (xs.length : Int) ∧ i < 2147483648 then xs[i.toNat]? else none
  | _ => none
/-- may a cell stand in an array of references of this tag (0: any object of class 0; 1: int rows; 2: long rows) -/
def zfit (t : Nat) (c : Option AC) : Bool := match t, c with
  | 0, some (.inl (0, _)) => true
  | 1, some (.inr (.inl (0, _))) => true
  | 2, some (.inr (.inr (.inl _))) => true
  | _, _ => false
def wrQ (h : Hp) (a : Nat) (i : Int) (x : Option Nat) : Option Hp := match h.1[a]? with
  | some (.inr (.inr (.inr (.inr (t, xs))))) => if 0 ≤ i ∧ i < (xs.length : Int) ∧ i < 2147483648 ∧ (∀ k, x = some k → zfit t h.1[k]? = true) then some (h.1.set a (.inr (.inr (.inr (.inr (t, xs.set i.toNat x))))), h.2) else none
  | _ => none
def zlen (h : Hp) (a : Nat) : Option Int := match h.1[a]? with
  | some (.inr (.inl (_, xs))) => some xs.length
  | some (.inr (.inr (.inl xs))) => some xs.length
  | some (.inr (.inr (.inr (.inl xs)))) => some xs.length
  | some (.inr (.inr (.inr (.inr (_, xs))))) => some xs.length
  | _ => none
def zis (h : Hp) (a ci : Nat) : Bool := match h.1[a]? with
  | some (.inl (c, _)) => c == ci
  | _ => false
def zhan (hs : List Nat) (e : Nat) : Option Nat := match hs with
  | c :: l :: t => if c = e then some l else zhan t e
  | _ => none
def ndiv (a b : Int) : Int := Int.tdiv a b
def nrem (a b : Int) : Int := Int.tmod a b
def z32 (x : Int) : Int32 := Int32.ofInt x
def zjmp (c : Jvm.ClassFile.Cond) (a b : Int) : Bool := match c with
  | .eq => decide (a = b)
  | .ne => decide (a ≠ b)
  | .lt => decide (a < b)
  | .ge => decide (b ≤ a)
  | .gt => decide (b < a)
  | .le => decide (a ≤ b)
def zcmp (a b : Int) : Int := if b < a then 1 else if a = b then 0 else -1
/-- the initial fields of an object, by the kinds of its fields (0 int, 1 char, 2 reference) -/
def zini (ks : List Nat) : List AV := ks.map (fun k => if k = 2 then vR none else vI 0)
def zarr (t : Nat) (n : Nat) : AC := match t with
  | 0 => cI 0 (List.replicate n 0)
  | 1 => cI 1 (List.replicate n 0)
  | 2 => cI 2 (List.replicate n 0)
  | 3 => cL (List.replicate n 0)
  | _ => cD (List.replicate n 0)
/-- Arrays.copyOf of references -/
def zcop (h : Hp) (a : Nat) (n : Int) : Option Hp := match h.1[a]? with
  | some (.inr (.inr (.inr (.inr (0, xs))))) => if (xs.length : Int) ≤ n ∧ n < 1000000 then some (h.1 ++ [cQ 0 (xs ++ List.replicate (n.toNat - xs.length) none)], h.2) else none
  | _ => none
/-- long[a][b][] and long[a][b][n] -/
def zmul (h : Hp) (d2 d1 : Nat) (n : Option Nat) : Hp :=
  let base := h.1.length
  match n with
  | none => (h.1 ++ cQ 3 ((List.range d2).map (fun i => some (base + 1 + i))) :: (List.range d2).map (fun _ => cQ 2 (List.replicate d1 none)), h.2)
  | some n => (h.1 ++ cQ 3 ((List.range d2).map (fun i => some (base + 1 + i * (d1 + 1)))) :: (List.range d2).flatMap (fun i => cQ 2 ((List.range d1).map (fun j => some (base + 1 + i * (d1 + 1) + 1 + j))) :: (List.range d1).map (fun _ => cL (List.replicate n 0))), h.2)
section
variable (scr : List Int) (prog : Nat → Nat → List AI) (mxl : Nat → Nat) (fks : Nat → List Nat)
def zent (y : Nat) (args : List AV) : Lc := zlay args ++ List.replicate (mxl y - (zlay args).length) none
/-- what follows a call -/
def zbeh (rec : Nat → List AI → Lc → Sk → Hp → Option Rs) (m : Nat) (r : List AI) (ls : Lc) (st : Sk) (hs : List Nat) (o : Rs) : Option Rs := match o.1 with
  | .inl v => rec m r ls (v.toList ++ st) o.2
  | .inr e => match zhan hs e with
    | some l => rec m (prog m l) ls [vM 2] o.2
    | none => if hs = [] then some (.inr e, o.2) else none
def zinv (rec : Nat → List AI → Lc → Sk → Hp → Option Rs) (m : Nat) (r : List AI) (ls : Lc) (st : Sk) (h : Hp) (y n : Nat) (hs : List Nat) : Option Rs :=
  if n ≤ st.length ∧ st.length ≤ n + 4 ∧ (zlay (st.take n).reverse).length ≤ mxl y then (rec y (prog y 0) (zent mxl y (st.take n).reverse) [] h).bind (fun o => zbeh prog rec m r ls (st.drop n) hs o) else none
/-- the receiver, below n - 1 arguments -/
def zrcv (st : Sk) (h : Hp) (n ci : Nat) : Bool := match st[n - 1]? with
  | some (.inr (.inr (.inl (some k)))) => zis h k ci
  | _ => false
/-- a reference stands below n - 1 arguments -/
def zref (st : Sk) (n : Nat) : Bool := match st[n - 1]? with
  | some (.inr (.inr (.inl (some _)))) => true
  | _ => false
def zstp (rec : Nat → List AI → Lc → Sk → Hp → Option Rs) (m : Nat) (r : List AI) (i : Instr) (x : List Nat) (ls : Lc) (st : Sk) (h : Hp) : Option Rs := match i with
  | .nop => rec m (prog m (x.getD 0 0)) ls st h
  | .aconst_null => rec m r ls (vR none :: st) h
  | .iconst c => rec m r ls (vI c :: st) h
  | .fconst c => rec m r ls (vF (if c.val = 0 then 0 else if c.val = 1 then 1065353216 else 1073741824) :: st) h
  | .dconst c => rec m r ls (vD (if c.val = 0 then 0 else 4607182418800017408) :: st) h
  | .ldc _ => rec m r ls (vI (x.getD 0 0 : Nat) :: st) h
  | .ldc2_w _ => rec m r ls (vL (if x.getD 1 0 = 1 then -((x.getD 0 0 : Nat) : Int) else ((x.getD 0 0 : Nat) : Int)) :: st) h
  | .iload k => match ls.getD k none with | some (.inl a) => rec m r ls (vI a :: st) h | _ => none
  | .lload k => match ls.getD k none with | some (.inr (.inl a)) => rec m r ls (vL a :: st) h | _ => none
  | .fload k => match ls.getD k none with | some (.inr (.inr (.inr (.inl a)))) => rec m r ls (vF a :: st) h | _ => none
  | .dload k => match ls.getD k none with | some (.inr (.inr (.inr (.inr (.inl a))))) => rec m r ls (vD a :: st) h | _ => none
  | .aload k => match ls.getD k none with | some (.inr (.inr (.inl a))) => rec m r ls (vR a :: st) h | some (.inr (.inr (.inr (.inr (.inr b))))) => rec m r ls (vM b :: st) h | _ => none
  | .istore k => match st with | .inl a :: st => (zset ls k (vI a)).bind (fun ls => rec m r ls st h) | _ => none
  | .lstore k => match st with | .inr (.inl a) :: st => (zset ls k (vL a)).bind (fun ls => rec m r ls st h) | _ => none
  | .fstore k => match st with | .inr (.inr (.inr (.inl a))) :: st => (zset ls k (vF a)).bind (fun ls => rec m r ls st h) | _ => none
  | .dstore k => match st with | .inr (.inr (.inr (.inr (.inl a)))) :: st => (zset ls k (vD a)).bind (fun ls => rec m r ls st h) | _ => none
  | .astore k => match st with | .inr (.inr (.inl a)) :: st => (zset ls k (vR a)).bind (fun ls => rec m r ls st h) | .inr (.inr (.inr (.inr (.inr b)))) :: st => (zset ls k (vM b)).bind (fun ls => rec m r ls st h) | _ => none
  | .iinc k c => match ls.getD k none with | some (.inl a) => (zset ls k (vI (a + c))).bind (fun ls => rec m r ls st h) | _ => none
  | .dup => match st with | v :: st => if zwide v = true then none else rec m r ls (v :: v :: st) h | _ => none
  | .pop => match st with | v :: st => if zwide v = true then none else rec m r ls st h | _ => none
  | .dup_x1 => match st with | v :: w :: st => if zwide v = true ∨ zwide w = true then none else rec m r ls (v :: w :: v :: st) h | _ => none
  | .dup2 => match st with | v :: w :: st => if zwide v = true ∨ zwide w = true then none else rec m r ls (v :: w :: v :: w :: st) h | _ => none
  | .iadd => match st with | .inl b :: .inl a :: st => rec m r ls (vI (a + b) :: st) h | _ => none
  | .isub => match st with | .inl b :: .inl a :: st => rec m r ls (vI (a - b) :: st) h | _ => none
  | .imul => match st with | .inl b :: .inl a :: st => rec m r ls (vI (a * b) :: st) h | _ => none
  | .idiv => match st with | .inl b :: .inl a :: st => if nrm b = 0 then none else rec m r ls (vI (ndiv (nrm a) (nrm b)) :: st) h | _ => none
  | .irem => match st with | .inl b :: .inl a :: st => if nrm b = 0 then none else rec m r ls (vI (nrem (nrm a) (nrm b)) :: st) h | _ => none
  | .iand => match st with | .inl b :: .inl a :: st => rec m r ls (vI (z32 a &&& z32 b).toInt :: st) h | _ => none
  | .ixor => match st with | .inl b :: .inl a :: st => rec m r ls (vI (z32 a ^^^ z32 b).toInt :: st) h | _ => none
  | .ishl => match st with | .inl b :: .inl a :: st => rec m r ls (vI (z32 a <<< (z32 b &&& 31)).toInt :: st) h | _ => none
  | .ishr => match st with | .inl b :: .inl a :: st => rec m r ls (vI (z32 a >>> (z32 b &&& 31)).toInt :: st) h | _ => none
  | .ladd => match st with | .inr (.inl b) :: .inr (.inl a) :: st => rec m r ls (vL (a + b) :: st) h | _ => none
  | .lmul => match st with | .inr (.inl b) :: .inr (.inl a) :: st => rec m r ls (vL (a * b) :: st) h | _ => none
  | .ldiv => match st with | .inr (.inl b) :: .inr (.inl a) :: st => if nrL b = 0 then none else rec m r ls (vL (ndiv (nrL a) (nrL b)) :: st) h | _ => none
  | .lrem => match st with | .inr (.inl b) :: .inr (.inl a) :: st => if nrL b = 0 then none else rec m r ls (vL (nrem (nrL a) (nrL b)) :: st) h | _ => none
  | .lcmp => match st with | .inr (.inl b) :: .inr (.inl a) :: st => rec m r ls (vI (zcmp (nrL a) (nrL b)) :: st) h | _ => none
  | .i2l => match st with | .inl a :: st => rec m r ls (vL (nrm a) :: st) h | _ => none
  | .l2i => match st with | .inr (.inl a) :: st => rec m r ls (vI a :: st) h | _ => none
  | .i2c => match st with | .inl a :: st => rec m r ls (vI (a % 65536) :: st) h | _ => none
  | .i2f => match st with | .inl a :: st => rec m r ls (vF (FP.i2f (z32 a)) :: st) h | _ => none
  | .i2d => match st with | .inl a :: st => rec m r ls (vD (FP.i2d (z32 a)) :: st) h | _ => none
  | .f2d => match st with | .inr (.inr (.inr (.inl a))) :: st => if FP.f2d a &&& 0x7fffffffffffffff ≤ 0x7ff0000000000000 then rec m r ls (vD (FP.f2d a) :: st) h else none | _ => none
  | .fdiv => match st with | .inr (.inr (.inr (.inl b))) :: .inr (.inr (.inr (.inl a))) :: st => if FP.fdiv a b &&& 0x7fffffff ≤ 0x7f800000 then rec m r ls (vF (FP.fdiv a b) :: st) h else none | _ => none
  | .ddiv => match st with | .inr (.inr (.inr (.inr (.inl b)))) :: .inr (.inr (.inr (.inr (.inl a)))) :: st => if FP.ddiv a b &&& 0x7fffffffffffffff ≤ 0x7ff0000000000000 then rec m r ls (vD (FP.ddiv a b) :: st) h else none | _ => none
  | .fcmp o => match st with | .inr (.inr (.inr (.inl b))) :: .inr (.inr (.inr (.inl a))) :: st => rec m r ls (vI (Op.cmpValue (FP.fcmp a b) o).toInt :: st) h | _ => none
  | .dcmp o => match st with | .inr (.inr (.inr (.inr (.inl b)))) :: .inr (.inr (.inr (.inr (.inl a)))) :: st => rec m r ls (vI (Op.cmpValue (FP.dcmp a b) o).toInt :: st) h | _ => none
  | .goto _ => rec m (prog m (x.getD 0 0)) ls st h
  | .ifCond c _ => match st with | .inl a :: st => if zjmp c (nrm a) 0 = true then rec m (prog m (x.getD 0 0)) ls st h else rec m r ls st h | _ => none
  | .if_icmp c _ => match st with | .inl b :: .inl a :: st => if zjmp c (nrm a) (nrm b) = true then rec m (prog m (x.getD 0 0)) ls st h else rec m r ls st h | _ => none
  | .if_acmp c _ => match st with
    | .inr (.inr (.inr (.inr (.inr 1)))) :: .inr (.inr (.inr (.inr (.inr 1)))) :: st => if c = .eq then rec m (prog m (x.getD 0 0)) ls st h else rec m r ls st h
    | .inr (.inr (.inr (.inr (.inr 1)))) :: .inr (.inr (.inl _)) :: st => if c = .eq then rec m r ls st h else rec m (prog m (x.getD 0 0)) ls st h
    | _ => none
  | .tableswitch _ lo hi _ => match st with | .inl a :: st => if nrm a < lo ∨ hi < nrm a then rec m (prog m (x.getD 0 0)) ls st h else rec m (prog m (x.getD (1 + (nrm a - lo).toNat) 0)) ls st h | _ => none
  | .getfield _ => match st with | .inr (.inr (.inl (some a))) :: st => (rdF h a (x.getD 0 0) (x.getD 1 0)).bind (fun v => rec m r ls (v :: st) h) | _ => none
  | .putfield _ => match st with
    | .inl v :: .inr (.inr (.inl (some a))) :: st => if x.getD 2 0 = 0 ∨ (x.getD 2 0 = 1 ∧ 0 ≤ v ∧ v < 65536) then (wrF h a (x.getD 0 0) (x.getD 1 0) (vI v)).bind (fun h => rec m r ls st h) else none
    | .inr (.inr (.inl v)) :: .inr (.inr (.inl (some a))) :: st => if x.getD 2 0 = 2 then (wrF h a (x.getD 0 0) (x.getD 1 0) (vR v)).bind (fun h => rec m r ls st h) else none
    | .inr (.inr (.inr (.inr (.inr 1)))) :: .inr (.inr (.inl (some a))) :: st => if x.getD 2 0 = 2 then (wrF h a (x.getD 0 0) (x.getD 1 0) (vM 1)).bind (fun h => rec m r ls st h) else none
    | _ => none
  | .getstatic _ => rec m r ls (vM 1 :: st) h
  | .iaload => match st with
    | .inl i :: .inr (.inr (.inl (some a))) :: st => (rdI h a 0 i).bind (fun v => rec m r ls (vI v :: st) h)
    | .inl i :: .inr (.inr (.inr (.inr (.inr 0)))) :: st => if 0 ≤ i ∧ i < 2147483648 then (scr[i.toNat]?).bind (fun v => rec m r ls (vI v :: st) h) else none
    | _ => none
  | .caload => match st with | .inl i :: .inr (.inr (.inl (some a))) :: st => (rdI h a 1 i).bind (fun v => rec m r ls (vI v :: st) h) | _ => none
  | .baload => match st with | .inl i :: .inr (.inr (.inl (some a))) :: st => (rdI h a 2 i).bind (fun v => rec m r ls (vI v :: st) h) | _ => none
  | .laload => match st with | .inl i :: .inr (.inr (.inl (some a))) :: st => (rdL h a i).bind (fun v => rec m r ls (vL v :: st) h) | _ => none
  | .daload => match st with | .inl i :: .inr (.inr (.inl (some a))) :: st => (rdD h a i).bind (fun v => rec m r ls (vD v :: st) h) | _ => none
  | .aaload => match st with | .inl i :: .inr (.inr (.inl (some a))) :: st => (rdQ h a i).bind (fun v => rec m r ls (vR v :: st) h) | _ => none
  | .iastore => match st with | .inl v :: .inl i :: .inr (.inr (.inl (some a))) :: st => (wrI h a 0 i v).bind (fun h => rec m r ls st h) | _ => none
  | .castore => match st with | .inl v :: .inl i :: .inr (.inr (.inl (some a))) :: st => (wrI h a 1 i (v % 65536)).bind (fun h => rec m r ls st h) | _ => none
  | .bastore => match st with | .inl v :: .inl i :: .inr (.inr (.inl (some a))) :: st => if v = 0 ∨ v = 1 then (wrI h a 2 i v).bind (fun h => rec m r ls st h) else none | _ => none
  | .lastore => match st with | .inr (.inl v) :: .inl i :: .inr (.inr (.inl (some a))) :: st => (wrL h a i v).bind (fun h => rec m r ls st h) | _ => none
  | .dastore => match st with | .inr (.inr (.inr (.inr (.inl v)))) :: .inl i :: .inr (.inr (.inl (some a))) :: st => (wrD h a i v).bind (fun h => rec m r ls st h) | _ => none
  | .aastore => match st with | .inr (.inr (.inl v)) :: .inl i :: .inr (.inr (.inl (some a))) :: st => (wrQ h a i v).bind (fun h => rec m r ls st h) | _ => none
  | .arraylength => match st with
    | .inr (.inr (.inl (some a))) :: st => (zlen h a).bind (fun v => rec m r ls (vI v :: st) h)
    | .inr (.inr (.inr (.inr (.inr 0)))) :: st => rec m r ls (vI (scr.length : Int) :: st) h
    | .inr (.inr (.inr (.inr (.inr 1)))) :: st => rec m r ls (vI 0 :: st) h
    | _ => none
  | .newarray _ => match st with | .inl n :: st => if 0 ≤ n ∧ n < 1000000 then rec m r ls (vR (some h.1.length) :: st) (h.1 ++ [zarr (x.getD 0 0) n.toNat], h.2) else none | _ => none
  | .anewarray _ => match st with | .inl n :: st => if 0 ≤ n ∧ n < 1000000 then rec m r ls (vR (some h.1.length) :: st) (h.1 ++ [cQ (x.getD 0 0) (List.replicate n.toNat none)], h.2) else none | _ => none
  | .multianewarray _ d => match st with
    | .inl n1 :: .inl n2 :: .inl n3 :: st => if d = 3 ∧ n1 = 27 ∧ n2 = 52 ∧ n3 = 2 then rec m r ls (vR (some h.1.length) :: st) (zmul h 2 52 (some 27)) else if d = 2 ∧ n1 = 52 ∧ n2 = 2 then rec m r ls (vR (some h.1.length) :: .inl n3 :: st) (zmul h 2 52 none) else none
    | .inl n1 :: .inl n2 :: st => if d = 2 ∧ n1 = 52 ∧ n2 = 2 then rec m r ls (vR (some h.1.length) :: st) (zmul h 2 52 none) else none
    | _ => none
  | .new _ => if x.getD 1 0 = 1 then (match st with | [] => some (.inr (x.getD 0 0), (h.1, h.2 + 1)) | _ => none) else rec m r ls (vR (some h.1.length) :: st) (h.1 ++ [cO (x.getD 0 0) (zini (fks (x.getD 0 0)))], h.2)
  | .checkcast _ => match st with | .inr (.inr (.inl (some a))) :: st => if zis h a (x.getD 0 0) = true then rec m r ls (vR (some a) :: st) h else none | _ => none
  | .invokespecial _ => match x with
    | [] => match st with | [.inr (.inr (.inl (some _)))] => rec m r ls [] h | _ => none
    | y :: n :: _ => if zref st n = true then zinv prog mxl rec m r ls st h y n [] else none
    | _ => none
  | .invokestatic _ => match x with
    | [] => match st with | .inl n :: .inr (.inr (.inl (some a))) :: st => if 4 < st.length then none else (zcop h a n).bind (fun h1 => rec m r ls (vR (some h.1.length) :: st) h1) | _ => none
    | [k] => match st with | .inl b :: .inl a :: st => if 8 < st.length then none else rec m r ls (vI (if k = 0 then (if nrm a < nrm b then b else a) else (if nrm b < nrm a then b else a)) :: st) h | _ => none
    | y :: n :: hs => zinv prog mxl rec m r ls st h y n hs
  | .invokevirtual _ => match x with
    | y :: n :: ci :: hs => if zrcv st h n ci = true then zinv prog mxl rec m r ls st h y n hs else none
    | _ => none
  | .ireturn => match st with | [.inl a] => if x.getD 0 0 = 0 ∨ (x.getD 0 0 = 1 ∧ 0 ≤ a ∧ a < 65536) ∨ (x.getD 0 0 = 2 ∧ (a = 0 ∨ a = 1)) then some (.inl (some (vI a)), h) else none | _ => none
  | .lreturn => match st with | [.inr (.inl a)] => some (.inl (some (vL a)), h) | _ => none
  | .freturn => match st with | [.inr (.inr (.inr (.inl a)))] => some (.inl (some (vF a)), h) | _ => none
  | .dreturn => match st with | [.inr (.inr (.inr (.inr (.inl a))))] => some (.inl (some (vD a)), h) | _ => none
  | .areturn => match st with | [.inr (.inr (.inl (some a)))] => some (.inl (some (vR (some a))), h) | _ => none
  | .return_ => match st with | [] => some (.inl none, h) | _ => none
  | _ => none
def zrun : Nat → Nat → List AI → Lc → Sk → Hp → Option Rs
  | 0, _, _, _, _, _ => none
  | _ + 1, _, [], _, _, _ => none
  | n + 1, m, (_, i, x) :: r, ls, st, h => zstp scr prog mxl fks (zrun n) m r i x ls st h
end
