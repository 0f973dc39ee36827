/-! numbers -/
theorem nrm_id {x : Int} (h1 : -2147483648 ≤ x) (h2 : x < 2147483648) : nrm x = x := by
  unfold nrm
  exact Int.bmod_eq_of_le (by omega) (by omega)
theorem nrL_id {x : Int} (h1 : -9223372036854775808 ≤ x) (h2 : x < 9223372036854775808) : nrL x = x := by
  unfold nrL
  exact Int.bmod_eq_of_le (by omega) (by omega)
theorem z32_toInt (x : Int) : (Int32.ofInt x).toInt = nrm x := Int32.toInt_ofInt
theorem z64_toInt (x : Int) : (Int64.ofInt x).toInt = nrL x := Int64.toInt_ofInt
theorem nrm_lo (x : Int) : -2147483648 ≤ nrm x := by
  have := Int.le_bmod (x := x) (m := 4294967296) (by decide)
  unfold nrm
  omega
theorem nrm_hi (x : Int) : nrm x < 2147483648 := by
  have := Int.bmod_lt (x := x) (m := 4294967296) (by decide)
  unfold nrm
  omega
theorem z32_nrm (x : Int) : Int32.ofInt (nrm x) = Int32.ofInt x := by
  apply Int32.toInt_inj.mp
  rw [z32_toInt, z32_toInt]
  exact nrm_id (nrm_lo x) (nrm_hi x)
theorem z32_of (x : Int32) : Int32.ofInt x.toInt = x := Int32.ofInt_toInt x
theorem z32_lt (a b : Int) : Int32.ofInt a < Int32.ofInt b ↔ nrm a < nrm b := by rw [Int32.lt_iff_toInt_lt, z32_toInt, z32_toInt]
theorem z32_le (a b : Int) : Int32.ofInt a ≤ Int32.ofInt b ↔ nrm a ≤ nrm b := by rw [Int32.le_iff_toInt_le, z32_toInt, z32_toInt]
theorem z32_eq (a b : Int) : Int32.ofInt a = Int32.ofInt b ↔ nrm a = nrm b := by rw [← Int32.toInt_inj, z32_toInt, z32_toInt]
theorem z64_lt (a b : Int) : Int64.ofInt a < Int64.ofInt b ↔ nrL a < nrL b := by rw [Int64.lt_iff_toInt_lt, z64_toInt, z64_toInt]
theorem z64_eq (a b : Int) : Int64.ofInt a = Int64.ofInt b ↔ nrL a = nrL b := by rw [← Int64.toInt_inj, z64_toInt, z64_toInt]
theorem nrm_0 : nrm 0 = 0 := rfl
theorem nrL_0 : nrL 0 = 0 := rfl
theorem z32_i2l (a : Int) : (Int32.ofInt a).toInt64 = Int64.ofInt (nrm a) := by
  apply Int64.toInt_inj.mp
  rw [Int32.toInt_toInt64, z64_toInt, z32_toInt]
  exact (nrL_id (by have := nrm_lo a; omega) (by have := nrm_hi a; omega)).symm
theorem z32_l2i (a : Int) : (Int64.ofInt a).toInt32 = Int32.ofInt a := by
  apply Int32.toInt_inj.mp
  rw [Int64.toInt_toInt32, z64_toInt, z32_toInt]
  unfold nrL nrm
  exact Int.bmod_bmod_of_dvd (by decide)
theorem z32_i2c (a : Int) : ((Int32.ofInt a).toUInt32 % 65536).toInt32 = Int32.ofInt (a % 65536) := by
  rw [pk_char]
  apply Int32.toInt_inj.mp
  have hb : (Int32.ofInt a).toBitVec.toNat = (a % 4294967296).toNat := by
    have : (Int32.ofInt a).toBitVec = BitVec.ofInt 32 a := rfl
    rw [this, BitVec.toNat_ofInt]
    rfl
  have hlt : (Int32.ofInt a).toBitVec.toNat % 2 ^ 16 < 2 ^ 16 := Nat.mod_lt _ (by decide)
  rw [show (65536 : Nat) = 2 ^ 16 from rfl, nI_toInt (by omega), z32_toInt, nrm_id (by omega) (by omega), hb]
  omega
theorem z32_div (a b : Int) : Int32.ofInt a / Int32.ofInt b = Int32.ofInt (ndiv (nrm a) (nrm b)) := by
  apply Int32.toInt_inj.mp
  rw [Int32.toInt_div, z32_toInt, z32_toInt, z32_toInt]
  rfl
theorem z32_rem (a b : Int) : Int32.ofInt a - Int32.ofInt a / Int32.ofInt b * Int32.ofInt b = Int32.ofInt (nrem (nrm a) (nrm b)) := by
  rw [z32_div]
  unfold nrem ndiv
  rw [Int.tmod_def, Int32.ofInt_sub, Int32.ofInt_mul, z32_nrm, z32_nrm, Int32.mul_comm]
theorem z64_nrm (x : Int) : Int64.ofInt (nrL x) = Int64.ofInt x := by
  apply Int64.toInt_inj.mp
  rw [z64_toInt, z64_toInt]
  unfold nrL
  exact Int.bmod_bmod
theorem z64_div (a b : Int) : Int64.ofInt a / Int64.ofInt b = Int64.ofInt (ndiv (nrL a) (nrL b)) := by
  apply Int64.toInt_inj.mp
  rw [Int64.toInt_div, z64_toInt, z64_toInt, z64_toInt]
  rfl
theorem z64_rem (a b : Int) : Int64.ofInt a - Int64.ofInt a / Int64.ofInt b * Int64.ofInt b = Int64.ofInt (nrem (nrL a) (nrL b)) := by
  rw [z64_div]
  unfold nrem ndiv
  rw [Int.tmod_def, Int64.ofInt_sub, Int64.ofInt_mul, z64_nrm, z64_nrm, Int64.mul_comm]
theorem z32_nz {b : Int} (h : ¬ nrm b = 0) : ¬ Int32.ofInt b = 0 := fun e => h (by rw [← z32_toInt, e]; rfl)
theorem z64_nz {b : Int} (h : ¬ nrL b = 0) : ¬ Int64.ofInt b = 0 := fun e => h (by rw [← z64_toInt, e]; rfl)
theorem z64_cmp (a b : Int) : lg_cmp (Int64.ofInt a) (Int64.ofInt b) = Int32.ofInt (zcmp (nrL a) (nrL b)) := by
  unfold lg_cmp zcmp
  simp only [gt_iff_lt, z64_lt, z64_eq]
  split
  · rfl
  · split <;> rfl
theorem z_in {i : Int} {n : Nat} (h0 : 0 ≤ i) (h1 : i < (n : Int)) (h2 : i < 2147483648) : vp_in (Int32.ofInt i) n := by
  rw [vp_in_iff, z32_toInt, nrm_id (by omega) h2]
  exact ⟨h0, h1⟩
theorem z_cl {i : Int} (h0 : 0 ≤ i) (h2 : i < 2147483648) : (Int32.ofInt i).toNatClampNeg = i.toNat := by
  unfold Int32.toNatClampNeg
  rw [z32_toInt, nrm_id (by omega) h2]
theorem zvs_cons {K : ZK} {ws : va_W} {v : AV} {st : Sk} {cs : List Value} (h : zvs K ws (v :: st) cs) : ∃ c cs', cs = c :: cs' ∧ zvr K ws v c ∧ zvs K ws st cs' := by
  cases cs with
  | nil => exact h.elim
  | cons c cs => exact ⟨c, cs, rfl, h.1, h.2⟩
theorem zvs_nil {K : ZK} {ws : va_W} {cs : List Value} (h : zvs K ws [] cs) : cs = [] := by
  cases cs with
  | nil => rfl
  | cons c cs => exact h.elim
section OPS
variable {p : Program} {l : Launch} {e : Env} {R : Room} {s : State} {m : MethodId} {args : Array Value} {below : List Frame} {meth : Method} {c : Code} {H : Heap} {locs : List Loc} {cells slots : Nat} {Q : State → Prop}
variable {cc : ByteArray} {pc : Nat} {lsC : Array Slot} {stC : List Value} {K : ZK} {ws : va_W} {st : Sk} {ls : Lc} {nL : Nat}
theorem o_iadd {a b : Int} (hx : p.tables.exec = Jvm.exec) (hb : c.code = cc) (hd : decode cc pc = .ok (.iadd, 1))  (hV : zvs K ws (vI b :: vI a :: st) stC) (k : ∀ stC2, zvs K ws (vI (a + b) :: st) stC2 → W p l e R s m args below meth c H locs cells slots Q (F0 m (pc + 1) lsC stC2)) : W p l e R s m args below meth c H locs cells slots Q (F0 m pc lsC stC) := by
  obtain ⟨c1, stC, rfl, h1, hV1⟩ := zvs_cons hV
  obtain ⟨c2, stC, rfl, h2, hV2⟩ := zvs_cons hV1
  have h1 : c1 = .int (Int32.ofInt b) := h1
  subst h1
  have h2 : c2 = .int (Int32.ofInt a) := h2
  subst h2
  exact lv_iadd hx hb hd (k _ ⟨by show _ = _; rw [Int32.ofInt_add], hV2⟩)
theorem o_isub {a b : Int} (hx : p.tables.exec = Jvm.exec) (hb : c.code = cc) (hd : decode cc pc = .ok (.isub, 1))  (hV : zvs K ws (vI b :: vI a :: st) stC) (k : ∀ stC2, zvs K ws (vI (a - b) :: st) stC2 → W p l e R s m args below meth c H locs cells slots Q (F0 m (pc + 1) lsC stC2)) : W p l e R s m args below meth c H locs cells slots Q (F0 m pc lsC stC) := by
  obtain ⟨c1, stC, rfl, h1, hV1⟩ := zvs_cons hV
  obtain ⟨c2, stC, rfl, h2, hV2⟩ := zvs_cons hV1
  have h1 : c1 = .int (Int32.ofInt b) := h1
  subst h1
  have h2 : c2 = .int (Int32.ofInt a) := h2
  subst h2
  exact lv_isub hx hb hd (k _ ⟨by show _ = _; rw [Int32.ofInt_sub], hV2⟩)
theorem o_imul {a b : Int} (hx : p.tables.exec = Jvm.exec) (hb : c.code = cc) (hd : decode cc pc = .ok (.imul, 1))  (hV : zvs K ws (vI b :: vI a :: st) stC) (k : ∀ stC2, zvs K ws (vI (a * b) :: st) stC2 → W p l e R s m args below meth c H locs cells slots Q (F0 m (pc + 1) lsC stC2)) : W p l e R s m args below meth c H locs cells slots Q (F0 m pc lsC stC) := by
  obtain ⟨c1, stC, rfl, h1, hV1⟩ := zvs_cons hV
  obtain ⟨c2, stC, rfl, h2, hV2⟩ := zvs_cons hV1
  have h1 : c1 = .int (Int32.ofInt b) := h1
  subst h1
  have h2 : c2 = .int (Int32.ofInt a) := h2
  subst h2
  exact lv_imul hx hb hd (k _ ⟨by show _ = _; rw [Int32.ofInt_mul], hV2⟩)
theorem o_ladd {a b : Int} (hx : p.tables.exec = Jvm.exec) (hb : c.code = cc) (hd : decode cc pc = .ok (.ladd, 1))  (hV : zvs K ws (vL b :: vL a :: st) stC) (k : ∀ stC2, zvs K ws (vL (a + b) :: st) stC2 → W p l e R s m args below meth c H locs cells slots Q (F0 m (pc + 1) lsC stC2)) : W p l e R s m args below meth c H locs cells slots Q (F0 m pc lsC stC) := by
  obtain ⟨c1, stC, rfl, h1, hV1⟩ := zvs_cons hV
  obtain ⟨c2, stC, rfl, h2, hV2⟩ := zvs_cons hV1
  have h1 : c1 = .long (Int64.ofInt b) := h1
  subst h1
  have h2 : c2 = .long (Int64.ofInt a) := h2
  subst h2
  exact lv_ladd hx hb hd (k _ ⟨by show _ = _; rw [Int64.ofInt_add], hV2⟩)
theorem o_lmul {a b : Int} (hx : p.tables.exec = Jvm.exec) (hb : c.code = cc) (hd : decode cc pc = .ok (.lmul, 1))  (hV : zvs K ws (vL b :: vL a :: st) stC) (k : ∀ stC2, zvs K ws (vL (a * b) :: st) stC2 → W p l e R s m args below meth c H locs cells slots Q (F0 m (pc + 1) lsC stC2)) : W p l e R s m args below meth c H locs cells slots Q (F0 m pc lsC stC) := by
  obtain ⟨c1, stC, rfl, h1, hV1⟩ := zvs_cons hV
  obtain ⟨c2, stC, rfl, h2, hV2⟩ := zvs_cons hV1
  have h1 : c1 = .long (Int64.ofInt b) := h1
  subst h1
  have h2 : c2 = .long (Int64.ofInt a) := h2
  subst h2
  exact lv_lmul hx hb hd (k _ ⟨by show _ = _; rw [Int64.ofInt_mul], hV2⟩)
theorem o_idiv {a b : Int} (hx : p.tables.exec = Jvm.exec) (hb : c.code = cc) (hd : decode cc pc = .ok (.idiv, 1)) (hz : ¬ nrm b = 0) (hV : zvs K ws (vI b :: vI a :: st) stC) (k : ∀ stC2, zvs K ws (vI (ndiv (nrm a) (nrm b)) :: st) stC2 → W p l e R s m args below meth c H locs cells slots Q (F0 m (pc + 1) lsC stC2)) : W p l e R s m args below meth c H locs cells slots Q (F0 m pc lsC stC) := by
  obtain ⟨c1, stC, rfl, h1, hV1⟩ := zvs_cons hV
  obtain ⟨c2, stC, rfl, h2, hV2⟩ := zvs_cons hV1
  have h1 : c1 = .int (Int32.ofInt b) := h1
  subst h1
  have h2 : c2 = .int (Int32.ofInt a) := h2
  subst h2
  exact lv_idiv hx hb hd (z32_nz hz) (k _ ⟨by show _ = _; rw [z32_div], hV2⟩)
theorem o_irem {a b : Int} (hx : p.tables.exec = Jvm.exec) (hb : c.code = cc) (hd : decode cc pc = .ok (.irem, 1)) (hz : ¬ nrm b = 0) (hV : zvs K ws (vI b :: vI a :: st) stC) (k : ∀ stC2, zvs K ws (vI (nrem (nrm a) (nrm b)) :: st) stC2 → W p l e R s m args below meth c H locs cells slots Q (F0 m (pc + 1) lsC stC2)) : W p l e R s m args below meth c H locs cells slots Q (F0 m pc lsC stC) := by
  obtain ⟨c1, stC, rfl, h1, hV1⟩ := zvs_cons hV
  obtain ⟨c2, stC, rfl, h2, hV2⟩ := zvs_cons hV1
  have h1 : c1 = .int (Int32.ofInt b) := h1
  subst h1
  have h2 : c2 = .int (Int32.ofInt a) := h2
  subst h2
  exact lv_irem hx hb hd (z32_nz hz) (k _ ⟨by show _ = _; rw [z32_rem], hV2⟩)
theorem o_ldiv {a b : Int} (hx : p.tables.exec = Jvm.exec) (hb : c.code = cc) (hd : decode cc pc = .ok (.ldiv, 1)) (hz : ¬ nrL b = 0) (hV : zvs K ws (vL b :: vL a :: st) stC) (k : ∀ stC2, zvs K ws (vL (ndiv (nrL a) (nrL b)) :: st) stC2 → W p l e R s m args below meth c H locs cells slots Q (F0 m (pc + 1) lsC stC2)) : W p l e R s m args below meth c H locs cells slots Q (F0 m pc lsC stC) := by
  obtain ⟨c1, stC, rfl, h1, hV1⟩ := zvs_cons hV
  obtain ⟨c2, stC, rfl, h2, hV2⟩ := zvs_cons hV1
  have h1 : c1 = .long (Int64.ofInt b) := h1
  subst h1
  have h2 : c2 = .long (Int64.ofInt a) := h2
  subst h2
  exact lv_ldiv hx hb hd (z64_nz hz) (k _ ⟨by show _ = _; rw [z64_div], hV2⟩)
theorem o_lrem {a b : Int} (hx : p.tables.exec = Jvm.exec) (hb : c.code = cc) (hd : decode cc pc = .ok (.lrem, 1)) (hz : ¬ nrL b = 0) (hV : zvs K ws (vL b :: vL a :: st) stC) (k : ∀ stC2, zvs K ws (vL (nrem (nrL a) (nrL b)) :: st) stC2 → W p l e R s m args below meth c H locs cells slots Q (F0 m (pc + 1) lsC stC2)) : W p l e R s m args below meth c H locs cells slots Q (F0 m pc lsC stC) := by
  obtain ⟨c1, stC, rfl, h1, hV1⟩ := zvs_cons hV
  obtain ⟨c2, stC, rfl, h2, hV2⟩ := zvs_cons hV1
  have h1 : c1 = .long (Int64.ofInt b) := h1
  subst h1
  have h2 : c2 = .long (Int64.ofInt a) := h2
  subst h2
  exact lv_lrem hx hb hd (z64_nz hz) (k _ ⟨by show _ = _; rw [z64_rem], hV2⟩)
theorem o_iand {a b : Int} (hx : p.tables.exec = Jvm.exec) (hb : c.code = cc) (hd : decode cc pc = .ok (.iand, 1))  (hV : zvs K ws (vI b :: vI a :: st) stC) (k : ∀ stC2, zvs K ws (vI (z32 a &&& z32 b).toInt :: st) stC2 → W p l e R s m args below meth c H locs cells slots Q (F0 m (pc + 1) lsC stC2)) : W p l e R s m args below meth c H locs cells slots Q (F0 m pc lsC stC) := by
  obtain ⟨c1, stC, rfl, h1, hV1⟩ := zvs_cons hV
  obtain ⟨c2, stC, rfl, h2, hV2⟩ := zvs_cons hV1
  have h1 : c1 = .int (Int32.ofInt b) := h1
  subst h1
  have h2 : c2 = .int (Int32.ofInt a) := h2
  subst h2
  exact lv_iand hx hb hd (k _ ⟨by show _ = _; rw [z32_of]; rfl, hV2⟩)
theorem o_ixor {a b : Int} (hx : p.tables.exec = Jvm.exec) (hb : c.code = cc) (hd : decode cc pc = .ok (.ixor, 1))  (hV : zvs K ws (vI b :: vI a :: st) stC) (k : ∀ stC2, zvs K ws (vI (z32 a ^^^ z32 b).toInt :: st) stC2 → W p l e R s m args below meth c H locs cells slots Q (F0 m (pc + 1) lsC stC2)) : W p l e R s m args below meth c H locs cells slots Q (F0 m pc lsC stC) := by
  obtain ⟨c1, stC, rfl, h1, hV1⟩ := zvs_cons hV
  obtain ⟨c2, stC, rfl, h2, hV2⟩ := zvs_cons hV1
  have h1 : c1 = .int (Int32.ofInt b) := h1
  subst h1
  have h2 : c2 = .int (Int32.ofInt a) := h2
  subst h2
  exact lv_ixor hx hb hd (k _ ⟨by show _ = _; rw [z32_of]; rfl, hV2⟩)
theorem o_ishl {a b : Int} (hx : p.tables.exec = Jvm.exec) (hb : c.code = cc) (hd : decode cc pc = .ok (.ishl, 1))  (hV : zvs K ws (vI b :: vI a :: st) stC) (k : ∀ stC2, zvs K ws (vI (z32 a <<< (z32 b &&& 31)).toInt :: st) stC2 → W p l e R s m args below meth c H locs cells slots Q (F0 m (pc + 1) lsC stC2)) : W p l e R s m args below meth c H locs cells slots Q (F0 m pc lsC stC) := by
  obtain ⟨c1, stC, rfl, h1, hV1⟩ := zvs_cons hV
  obtain ⟨c2, stC, rfl, h2, hV2⟩ := zvs_cons hV1
  have h1 : c1 = .int (Int32.ofInt b) := h1
  subst h1
  have h2 : c2 = .int (Int32.ofInt a) := h2
  subst h2
  exact lv_ishl hx hb hd (k _ ⟨by show _ = _; rw [z32_of]; rfl, hV2⟩)
theorem o_ishr {a b : Int} (hx : p.tables.exec = Jvm.exec) (hb : c.code = cc) (hd : decode cc pc = .ok (.ishr, 1))  (hV : zvs K ws (vI b :: vI a :: st) stC) (k : ∀ stC2, zvs K ws (vI (z32 a >>> (z32 b &&& 31)).toInt :: st) stC2 → W p l e R s m args below meth c H locs cells slots Q (F0 m (pc + 1) lsC stC2)) : W p l e R s m args below meth c H locs cells slots Q (F0 m pc lsC stC) := by
  obtain ⟨c1, stC, rfl, h1, hV1⟩ := zvs_cons hV
  obtain ⟨c2, stC, rfl, h2, hV2⟩ := zvs_cons hV1
  have h1 : c1 = .int (Int32.ofInt b) := h1
  subst h1
  have h2 : c2 = .int (Int32.ofInt a) := h2
  subst h2
  exact lv_ishr hx hb hd (k _ ⟨by show _ = _; rw [z32_of]; rfl, hV2⟩)
theorem o_lcmp {a b : Int} (hx : p.tables.exec = Jvm.exec) (hb : c.code = cc) (hd : decode cc pc = .ok (.lcmp, 1))  (hV : zvs K ws (vL b :: vL a :: st) stC) (k : ∀ stC2, zvs K ws (vI (zcmp (nrL a) (nrL b)) :: st) stC2 → W p l e R s m args below meth c H locs cells slots Q (F0 m (pc + 1) lsC stC2)) : W p l e R s m args below meth c H locs cells slots Q (F0 m pc lsC stC) := by
  obtain ⟨c1, stC, rfl, h1, hV1⟩ := zvs_cons hV
  obtain ⟨c2, stC, rfl, h2, hV2⟩ := zvs_cons hV1
  have h1 : c1 = .long (Int64.ofInt b) := h1
  subst h1
  have h2 : c2 = .long (Int64.ofInt a) := h2
  subst h2
  exact W.lcmp hx hb hd (k _ ⟨by show _ = _; rw [z64_cmp], hV2⟩)
theorem o_i2l {a : Int} (hx : p.tables.exec = Jvm.exec) (hb : c.code = cc) (hd : decode cc pc = .ok (.i2l, 1))  (hV : zvs K ws (vI a :: st) stC) (k : ∀ stC2, zvs K ws (vL (nrm a) :: st) stC2 → W p l e R s m args below meth c H locs cells slots Q (F0 m (pc + 1) lsC stC2)) : W p l e R s m args below meth c H locs cells slots Q (F0 m pc lsC stC) := by
  obtain ⟨c1, stC, rfl, h1, hV1⟩ := zvs_cons hV
  have h1 : c1 = .int (Int32.ofInt a) := h1
  subst h1
  exact lv_i2l hx hb hd (z32_i2l a) (k _ ⟨rfl, hV1⟩)
theorem o_l2i {a : Int} (hx : p.tables.exec = Jvm.exec) (hb : c.code = cc) (hd : decode cc pc = .ok (.l2i, 1))  (hV : zvs K ws (vL a :: st) stC) (k : ∀ stC2, zvs K ws (vI a :: st) stC2 → W p l e R s m args below meth c H locs cells slots Q (F0 m (pc + 1) lsC stC2)) : W p l e R s m args below meth c H locs cells slots Q (F0 m pc lsC stC) := by
  obtain ⟨c1, stC, rfl, h1, hV1⟩ := zvs_cons hV
  have h1 : c1 = .long (Int64.ofInt a) := h1
  subst h1
  exact lv_l2i hx hb hd (z32_l2i a) (k _ ⟨rfl, hV1⟩)
theorem o_i2c {a : Int} (hx : p.tables.exec = Jvm.exec) (hb : c.code = cc) (hd : decode cc pc = .ok (.i2c, 1))  (hV : zvs K ws (vI a :: st) stC) (k : ∀ stC2, zvs K ws (vI (a % 65536) :: st) stC2 → W p l e R s m args below meth c H locs cells slots Q (F0 m (pc + 1) lsC stC2)) : W p l e R s m args below meth c H locs cells slots Q (F0 m pc lsC stC) := by
  obtain ⟨c1, stC, rfl, h1, hV1⟩ := zvs_cons hV
  have h1 : c1 = .int (Int32.ofInt a) := h1
  subst h1
  exact lv_i2c hx hb hd (z32_i2c a) (k _ ⟨rfl, hV1⟩)
theorem o_i2f {a : Int} (hx : p.tables.exec = Jvm.exec) (hb : c.code = cc) (hd : decode cc pc = .ok (.i2f, 1))  (hV : zvs K ws (vI a :: st) stC) (k : ∀ stC2, zvs K ws (vF (FP.i2f (z32 a)) :: st) stC2 → W p l e R s m args below meth c H locs cells slots Q (F0 m (pc + 1) lsC stC2)) : W p l e R s m args below meth c H locs cells slots Q (F0 m pc lsC stC) := by
  obtain ⟨c1, stC, rfl, h1, hV1⟩ := zvs_cons hV
  have h1 : c1 = .int (Int32.ofInt a) := h1
  subst h1
  exact lv_i2f hx hb hd (k _ ⟨rfl, hV1⟩)
theorem o_i2d {a : Int} (hx : p.tables.exec = Jvm.exec) (hb : c.code = cc) (hd : decode cc pc = .ok (.i2d, 1))  (hV : zvs K ws (vI a :: st) stC) (k : ∀ stC2, zvs K ws (vD (FP.i2d (z32 a)) :: st) stC2 → W p l e R s m args below meth c H locs cells slots Q (F0 m (pc + 1) lsC stC2)) : W p l e R s m args below meth c H locs cells slots Q (F0 m pc lsC stC) := by
  obtain ⟨c1, stC, rfl, h1, hV1⟩ := zvs_cons hV
  have h1 : c1 = .int (Int32.ofInt a) := h1
  subst h1
  exact lv_i2d hx hb hd (k _ ⟨rfl, hV1⟩)
theorem o_f2d {a : UInt32} (hx : p.tables.exec = Jvm.exec) (hb : c.code = cc) (hd : decode cc pc = .ok (.f2d, 1)) (hz : FP.f2d a &&& 0x7fffffffffffffff ≤ 0x7ff0000000000000) (hV : zvs K ws (vF a :: st) stC) (k : ∀ stC2, zvs K ws (vD (FP.f2d a) :: st) stC2 → W p l e R s m args below meth c H locs cells slots Q (F0 m (pc + 1) lsC stC2)) : W p l e R s m args below meth c H locs cells slots Q (F0 m pc lsC stC) := by
  obtain ⟨c1, stC, rfl, h1, hV1⟩ := zvs_cons hV
  have h1 : c1 = .float a := h1
  subst h1
  exact lv_f2d hx hb hd hz (k _ ⟨rfl, hV1⟩)
theorem o_fdiv {a b : UInt32} (hx : p.tables.exec = Jvm.exec) (hb : c.code = cc) (hd : decode cc pc = .ok (.fdiv, 1)) (hz : FP.fdiv a b &&& 0x7fffffff ≤ 0x7f800000) (hV : zvs K ws (vF b :: vF a :: st) stC) (k : ∀ stC2, zvs K ws (vF (FP.fdiv a b) :: st) stC2 → W p l e R s m args below meth c H locs cells slots Q (F0 m (pc + 1) lsC stC2)) : W p l e R s m args below meth c H locs cells slots Q (F0 m pc lsC stC) := by
  obtain ⟨c1, stC, rfl, h1, hV1⟩ := zvs_cons hV
  obtain ⟨c2, stC, rfl, h2, hV2⟩ := zvs_cons hV1
  have h1 : c1 = .float b := h1
  subst h1
  have h2 : c2 = .float a := h2
  subst h2
  exact lv_fdiv hx hb hd hz (k _ ⟨rfl, hV2⟩)
theorem o_ddiv {a b : UInt64} (hx : p.tables.exec = Jvm.exec) (hb : c.code = cc) (hd : decode cc pc = .ok (.ddiv, 1)) (hz : FP.ddiv a b &&& 0x7fffffffffffffff ≤ 0x7ff0000000000000) (hV : zvs K ws (vD b :: vD a :: st) stC) (k : ∀ stC2, zvs K ws (vD (FP.ddiv a b) :: st) stC2 → W p l e R s m args below meth c H locs cells slots Q (F0 m (pc + 1) lsC stC2)) : W p l e R s m args below meth c H locs cells slots Q (F0 m pc lsC stC) := by
  obtain ⟨c1, stC, rfl, h1, hV1⟩ := zvs_cons hV
  obtain ⟨c2, stC, rfl, h2, hV2⟩ := zvs_cons hV1
  have h1 : c1 = .double b := h1
  subst h1
  have h2 : c2 = .double a := h2
  subst h2
  exact lv_ddiv hx hb hd hz (k _ ⟨rfl, hV2⟩)
theorem o_fcmp {a b : UInt32} {o : CmpOp} (hx : p.tables.exec = Jvm.exec) (hb : c.code = cc) (hd : decode cc pc = .ok (.fcmp o, 1))  (hV : zvs K ws (vF b :: vF a :: st) stC) (k : ∀ stC2, zvs K ws (vI (Op.cmpValue (FP.fcmp a b) o).toInt :: st) stC2 → W p l e R s m args below meth c H locs cells slots Q (F0 m (pc + 1) lsC stC2)) : W p l e R s m args below meth c H locs cells slots Q (F0 m pc lsC stC) := by
  obtain ⟨c1, stC, rfl, h1, hV1⟩ := zvs_cons hV
  obtain ⟨c2, stC, rfl, h2, hV2⟩ := zvs_cons hV1
  have h1 : c1 = .float b := h1
  subst h1
  have h2 : c2 = .float a := h2
  subst h2
  exact lv_fcmp hx hb hd (k _ ⟨by show _ = _; rw [z32_of], hV2⟩)
theorem o_dcmp {a b : UInt64} {o : CmpOp} (hx : p.tables.exec = Jvm.exec) (hb : c.code = cc) (hd : decode cc pc = .ok (.dcmp o, 1))  (hV : zvs K ws (vD b :: vD a :: st) stC) (k : ∀ stC2, zvs K ws (vI (Op.cmpValue (FP.dcmp a b) o).toInt :: st) stC2 → W p l e R s m args below meth c H locs cells slots Q (F0 m (pc + 1) lsC stC2)) : W p l e R s m args below meth c H locs cells slots Q (F0 m pc lsC stC) := by
  obtain ⟨c1, stC, rfl, h1, hV1⟩ := zvs_cons hV
  obtain ⟨c2, stC, rfl, h2, hV2⟩ := zvs_cons hV1
  have h1 : c1 = .double b := h1
  subst h1
  have h2 : c2 = .double a := h2
  subst h2
  exact lv_dcmp hx hb hd (k _ ⟨by show _ = _; rw [z32_of], hV2⟩)
theorem o_null  (hx : p.tables.exec = Jvm.exec) (hb : c.code = cc) (hd : decode cc pc = .ok (.aconst_null, 1))  (hV : zvs K ws (st) stC) (k : ∀ stC2, zvs K ws (vR none :: st) stC2 → W p l e R s m args below meth c H locs cells slots Q (F0 m (pc + 1) lsC stC2)) : W p l e R s m args below meth c H locs cells slots Q (F0 m pc lsC stC) := by
  exact lv_null hx hb hd (k _ ⟨rfl, hV⟩)
theorem o_fconst  (hx : p.tables.exec = Jvm.exec) (hb : c.code = cc) (hd : decode cc pc = .ok (.fconst 0, 1))  (hV : zvs K ws (st) stC) (k : ∀ stC2, zvs K ws (vF 0 :: st) stC2 → W p l e R s m args below meth c H locs cells slots Q (F0 m (pc + 1) lsC stC2)) : W p l e R s m args below meth c H locs cells slots Q (F0 m pc lsC stC) := by
  exact lv_fconst0 hx hb hd (k _ ⟨rfl, hV⟩)
theorem o_dconst  (hx : p.tables.exec = Jvm.exec) (hb : c.code = cc) (hd : decode cc pc = .ok (.dconst 0, 1))  (hV : zvs K ws (st) stC) (k : ∀ stC2, zvs K ws (vD 0 :: st) stC2 → W p l e R s m args below meth c H locs cells slots Q (F0 m (pc + 1) lsC stC2)) : W p l e R s m args below meth c H locs cells slots Q (F0 m pc lsC stC) := by
  exact lv_dconst0 hx hb hd (k _ ⟨rfl, hV⟩)
theorem o_dup {v : AV} (hx : p.tables.exec = Jvm.exec) (hb : c.code = cc) (hd : decode cc pc = .ok (.dup, 1)) (hw : zwide v = false) (hV : zvs K ws (v :: st) stC) (k : ∀ stC2, zvs K ws (v :: v :: st) stC2 → W p l e R s m args below meth c H locs cells slots Q (F0 m (pc + 1) lsC stC2)) : W p l e R s m args below meth c H locs cells slots Q (F0 m pc lsC stC) := by
  obtain ⟨c1, stC, rfl, h1, hV1⟩ := zvs_cons hV
  exact lv_dup hx hb hd (by rw [h1.cat, hw]; rfl) (k _ ⟨h1, h1, hV1⟩)
theorem o_pop {v : AV} (hx : p.tables.exec = Jvm.exec) (hb : c.code = cc) (hd : decode cc pc = .ok (.pop, 1)) (hw : zwide v = false) (hV : zvs K ws (v :: st) stC) (k : ∀ stC2, zvs K ws (st) stC2 → W p l e R s m args below meth c H locs cells slots Q (F0 m (pc + 1) lsC stC2)) : W p l e R s m args below meth c H locs cells slots Q (F0 m pc lsC stC) := by
  obtain ⟨c1, stC, rfl, h1, hV1⟩ := zvs_cons hV
  exact lv_pop hx hb hd (by rw [h1.cat, hw]; rfl) (k _ hV1)
theorem o_dup_x1 {v w : AV} (hx : p.tables.exec = Jvm.exec) (hb : c.code = cc) (hd : decode cc pc = .ok (.dup_x1, 1)) (hw : zwide v = false) (hw2 : zwide w = false) (hV : zvs K ws (v :: w :: st) stC) (k : ∀ stC2, zvs K ws (v :: w :: v :: st) stC2 → W p l e R s m args below meth c H locs cells slots Q (F0 m (pc + 1) lsC stC2)) : W p l e R s m args below meth c H locs cells slots Q (F0 m pc lsC stC) := by
  obtain ⟨c1, stC, rfl, h1, hV1⟩ := zvs_cons hV
  obtain ⟨c2, stC, rfl, h2, hV2⟩ := zvs_cons hV1
  exact lv_dup_x1 hx hb hd (by rw [h1.cat, hw]; rfl) (by rw [h2.cat, hw2]; rfl) (k _ ⟨h1, h2, h1, hV2⟩)
theorem o_dup2 {v w : AV} (hx : p.tables.exec = Jvm.exec) (hb : c.code = cc) (hd : decode cc pc = .ok (.dup2, 1)) (hw : zwide v = false) (hw2 : zwide w = false) (hV : zvs K ws (v :: w :: st) stC) (k : ∀ stC2, zvs K ws (v :: w :: v :: w :: st) stC2 → W p l e R s m args below meth c H locs cells slots Q (F0 m (pc + 1) lsC stC2)) : W p l e R s m args below meth c H locs cells slots Q (F0 m pc lsC stC) := by
  obtain ⟨c1, stC, rfl, h1, hV1⟩ := zvs_cons hV
  obtain ⟨c2, stC, rfl, h2, hV2⟩ := zvs_cons hV1
  exact lv_dup2_11 hx hb hd (by rw [h1.cat, hw]; rfl) (by rw [h2.cat, hw2]; rfl) (k _ ⟨h1, h2, h1, h2, hV2⟩)
theorem o_iload {i : Nat} {a : Int} (hx : p.tables.exec = Jvm.exec) (hb : c.code = cc) (hd : decode cc pc = .ok (.iload i, 2)) (hl : ls.getD i none = some (vI a)) (hL : zLR K ws ls lsC nL) (hV : zvs K ws (st) stC) (k : ∀ stC2, zvs K ws (vI a :: st) stC2 → W p l e R s m args below meth c H locs cells slots Q (F0 m (pc + 2) lsC stC2)) : W p l e R s m args below meth c H locs cells slots Q (F0 m pc lsC stC) := by
  obtain ⟨w, h1, h2⟩ := hL.at hl
  have h1 : w = .int (Int32.ofInt a) := h1
  subst h1
  exact lv_iload hx hb hd h2 (k _ ⟨rfl, hV⟩)
theorem o_iload_n {n : Fin 4} {a : Int} (hx : p.tables.exec = Jvm.exec) (hb : c.code = cc) (hd : decode cc pc = .ok (.iload_n n, 1)) (hl : ls.getD n.val none = some (vI a)) (hL : zLR K ws ls lsC nL) (hV : zvs K ws (st) stC) (k : ∀ stC2, zvs K ws (vI a :: st) stC2 → W p l e R s m args below meth c H locs cells slots Q (F0 m (pc + 1) lsC stC2)) : W p l e R s m args below meth c H locs cells slots Q (F0 m pc lsC stC) := by
  obtain ⟨w, h1, h2⟩ := hL.at hl
  have h1 : w = .int (Int32.ofInt a) := h1
  subst h1
  exact lv_iload_n hx hb hd rfl h2 (k _ ⟨rfl, hV⟩)
theorem o_lload {i : Nat} {a : Int} (hx : p.tables.exec = Jvm.exec) (hb : c.code = cc) (hd : decode cc pc = .ok (.lload i, 2)) (hl : ls.getD i none = some (vL a)) (hL : zLR K ws ls lsC nL) (hV : zvs K ws (st) stC) (k : ∀ stC2, zvs K ws (vL a :: st) stC2 → W p l e R s m args below meth c H locs cells slots Q (F0 m (pc + 2) lsC stC2)) : W p l e R s m args below meth c H locs cells slots Q (F0 m pc lsC stC) := by
  obtain ⟨w, h1, h2⟩ := hL.at hl
  have h1 : w = .long (Int64.ofInt a) := h1
  subst h1
  exact lv_lload hx hb hd h2 (k _ ⟨rfl, hV⟩)
theorem o_lload_n {n : Fin 4} {a : Int} (hx : p.tables.exec = Jvm.exec) (hb : c.code = cc) (hd : decode cc pc = .ok (.lload_n n, 1)) (hl : ls.getD n.val none = some (vL a)) (hL : zLR K ws ls lsC nL) (hV : zvs K ws (st) stC) (k : ∀ stC2, zvs K ws (vL a :: st) stC2 → W p l e R s m args below meth c H locs cells slots Q (F0 m (pc + 1) lsC stC2)) : W p l e R s m args below meth c H locs cells slots Q (F0 m pc lsC stC) := by
  obtain ⟨w, h1, h2⟩ := hL.at hl
  have h1 : w = .long (Int64.ofInt a) := h1
  subst h1
  exact lv_lload_n hx hb hd rfl h2 (k _ ⟨rfl, hV⟩)
theorem o_fload {i : Nat} {a : UInt32} (hx : p.tables.exec = Jvm.exec) (hb : c.code = cc) (hd : decode cc pc = .ok (.fload i, 2)) (hl : ls.getD i none = some (vF a)) (hL : zLR K ws ls lsC nL) (hV : zvs K ws (st) stC) (k : ∀ stC2, zvs K ws (vF a :: st) stC2 → W p l e R s m args below meth c H locs cells slots Q (F0 m (pc + 2) lsC stC2)) : W p l e R s m args below meth c H locs cells slots Q (F0 m pc lsC stC) := by
  obtain ⟨w, h1, h2⟩ := hL.at hl
  have h1 : w = .float a := h1
  subst h1
  exact lv_fload hx hb hd h2 (k _ ⟨rfl, hV⟩)
theorem o_dload {i : Nat} {a : UInt64} (hx : p.tables.exec = Jvm.exec) (hb : c.code = cc) (hd : decode cc pc = .ok (.dload i, 2)) (hl : ls.getD i none = some (vD a)) (hL : zLR K ws ls lsC nL) (hV : zvs K ws (st) stC) (k : ∀ stC2, zvs K ws (vD a :: st) stC2 → W p l e R s m args below meth c H locs cells slots Q (F0 m (pc + 2) lsC stC2)) : W p l e R s m args below meth c H locs cells slots Q (F0 m pc lsC stC) := by
  obtain ⟨w, h1, h2⟩ := hL.at hl
  have h1 : w = .double a := h1
  subst h1
  exact lv_dload hx hb hd h2 (k _ ⟨rfl, hV⟩)
theorem zvr_ref {v : AV} {w : Value} (hv : zwide v = false ∧ (∀ x, v ≠ .inl x) ∧ (∀ x, v ≠ .inr (.inr (.inr (.inl x))))) (h : zvr K ws v w) : w = .null ∨ ∃ a, w = .ref a := by
  unfold zvr at h
  split at h
  · exact absurd rfl (hv.2.1 _)
  · exact absurd hv.1 (by simp [zwide])
  · exact Or.inl h
  · obtain ⟨q, -, h⟩ := h
    exact Or.inr ⟨_, h⟩
  · exact absurd rfl (hv.2.2 _)
  · exact absurd hv.1 (by simp [zwide])
  · exact Or.inr ⟨_, h⟩
  · exact Or.inr ⟨_, h⟩
  · exact Or.inr h
theorem o_aload {i : Nat} {v : AV} (hx : p.tables.exec = Jvm.exec) (hb : c.code = cc) (hd : decode cc pc = .ok (.aload i, 2)) (hv : zwide v = false ∧ (∀ x, v ≠ .inl x) ∧ (∀ x, v ≠ .inr (.inr (.inr (.inl x))))) (hl : ls.getD i none = some v) (hL : zLR K ws ls lsC nL) (hV : zvs K ws (st) stC) (k : ∀ stC2, zvs K ws (v :: st) stC2 → W p l e R s m args below meth c H locs cells slots Q (F0 m (pc + 2) lsC stC2)) : W p l e R s m args below meth c H locs cells slots Q (F0 m pc lsC stC) := by
  obtain ⟨w, h1, h2⟩ := hL.at hl
  rcases zvr_ref hv h1 with h3 | ⟨a, h3⟩
  · subst h3
    exact lv_aloadN hx hb hd h2 (k _ ⟨h1, hV⟩)
  · subst h3
    exact lv_aload hx hb hd h2 (k _ ⟨h1, hV⟩)
theorem o_aload_n {n : Fin 4} {v : AV} (hx : p.tables.exec = Jvm.exec) (hb : c.code = cc) (hd : decode cc pc = .ok (.aload_n n, 1)) (hv : zwide v = false ∧ (∀ x, v ≠ .inl x) ∧ (∀ x, v ≠ .inr (.inr (.inr (.inl x))))) (hl : ls.getD n.val none = some v) (hL : zLR K ws ls lsC nL) (hV : zvs K ws (st) stC) (k : ∀ stC2, zvs K ws (v :: st) stC2 → W p l e R s m args below meth c H locs cells slots Q (F0 m (pc + 1) lsC stC2)) : W p l e R s m args below meth c H locs cells slots Q (F0 m pc lsC stC) := by
  obtain ⟨w, h1, h2⟩ := hL.at hl
  rcases zvr_ref hv h1 with h3 | ⟨a, h3⟩
  · subst h3
    exact lv_aload_nN hx hb hd rfl h2 (k _ ⟨h1, hV⟩)
  · subst h3
    exact lv_aload_n hx hb hd rfl h2 (k _ ⟨h1, hV⟩)
theorem o_nop (hV : zvs K ws st stC) (k : ∀ stC2, zvs K ws st stC2 → W p l e R s m args below meth c H locs cells slots Q (F0 m pc lsC stC2)) : W p l e R s m args below meth c H locs cells slots Q (F0 m pc lsC stC) := k _ hV
theorem o_goto (hx : p.tables.exec = Jvm.exec) (hb : c.code = cc) {off : Int} {tgt : Nat} (hd : decode cc pc = .ok (.goto off, 3)) (ht : (pc : Int) + off = (tgt : Int)) (hV : zvs K ws st stC) (k : ∀ stC2, zvs K ws st stC2 → W p l e R s m args below meth c H locs cells slots Q (F0 m tgt lsC stC2)) : W p l e R s m args below meth c H locs cells slots Q (F0 m pc lsC stC) := lv_goto hx hb hd ht (k _ hV)
theorem o_ifCond {cd : Jvm.ClassFile.Cond} {a : Int} (hx : p.tables.exec = Jvm.exec) (hb : c.code = cc) {off : Int} {tgt : Nat} (hd : decode cc pc = .ok (.ifCond cd off, 3)) (ht : (pc : Int) + off = (tgt : Int)) (hV : zvs K ws (vI a :: st) stC)
    (kt : zjmp cd (nrm a) 0 = true → ∀ stC2, zvs K ws st stC2 → W p l e R s m args below meth c H locs cells slots Q (F0 m tgt lsC stC2)) (kf : ¬ zjmp cd (nrm a) 0 = true → ∀ stC2, zvs K ws st stC2 → W p l e R s m args below meth c H locs cells slots Q (F0 m (pc + 3) lsC stC2)) : W p l e R s m args below meth c H locs cells slots Q (F0 m pc lsC stC) := by
  obtain ⟨c1, stC, rfl, h1, hV1⟩ := zvs_cons hV
  have h1 : c1 = .int (Int32.ofInt a) := h1
  subst h1
  have e0 : (0 : Int32) = Int32.ofInt 0 := rfl
  cases cd
  · refine lv_if_eq hx hb hd ht (fun h => kt ?_ _ hV1) (fun h => kf ?_ _ hV1) <;> (rw [e0, z32_eq, nrm_0] at h; simpa [zjmp] using h)
  · refine lv_if_ne hx hb hd ht (fun h => kt ?_ _ hV1) (fun h => kf ?_ _ hV1) <;> (simp only [ne_eq, e0, z32_eq, nrm_0] at h; simpa [zjmp] using h)
  · refine lv_if_lt hx hb hd ht (fun h => kt ?_ _ hV1) (fun h => kf ?_ _ hV1) <;> (rw [e0, z32_lt, nrm_0] at h; simpa [zjmp] using h)
  · refine lv_if_ge hx hb hd ht (fun h => kt ?_ _ hV1) (fun h => kf ?_ _ hV1) <;> (simp only [ge_iff_le, e0, z32_le, nrm_0] at h; simpa [zjmp] using h)
  · refine lv_if_gt hx hb hd ht (fun h => kt ?_ _ hV1) (fun h => kf ?_ _ hV1) <;> (simp only [gt_iff_lt, e0, z32_lt, nrm_0] at h; simpa [zjmp] using h)
  · refine lv_if_le hx hb hd ht (fun h => kt ?_ _ hV1) (fun h => kf ?_ _ hV1) <;> (rw [e0, z32_le, nrm_0] at h; simpa [zjmp] using h)
theorem o_icmp {cd : Jvm.ClassFile.Cond} {a b : Int} (hx : p.tables.exec = Jvm.exec) (hb : c.code = cc) {off : Int} {tgt : Nat} (hd : decode cc pc = .ok (.if_icmp cd off, 3)) (ht : (pc : Int) + off = (tgt : Int)) (hV : zvs K ws (vI b :: vI a :: st) stC)
    (kt : zjmp cd (nrm a) (nrm b) = true → ∀ stC2, zvs K ws st stC2 → W p l e R s m args below meth c H locs cells slots Q (F0 m tgt lsC stC2)) (kf : ¬ zjmp cd (nrm a) (nrm b) = true → ∀ stC2, zvs K ws st stC2 → W p l e R s m args below meth c H locs cells slots Q (F0 m (pc + 3) lsC stC2)) : W p l e R s m args below meth c H locs cells slots Q (F0 m pc lsC stC) := by
  obtain ⟨c1, stC, rfl, h1, hV1⟩ := zvs_cons hV
  obtain ⟨c2, stC, rfl, h2, hV2⟩ := zvs_cons hV1
  have h1 : c1 = .int (Int32.ofInt b) := h1
  have h2 : c2 = .int (Int32.ofInt a) := h2
  subst h1; subst h2
  cases cd
  · refine lv_icmp_eq hx hb hd ht (fun h => kt ?_ _ hV2) (fun h => kf ?_ _ hV2) <;> (rw [z32_eq] at h; simpa [zjmp] using h)
  · refine lv_icmp_ne hx hb hd ht (fun h => kt ?_ _ hV2) (fun h => kf ?_ _ hV2) <;> (simp only [ne_eq, z32_eq] at h; simpa [zjmp] using h)
  · refine lv_icmp_lt hx hb hd ht (fun h => kt ?_ _ hV2) (fun h => kf ?_ _ hV2) <;> (rw [z32_lt] at h; simpa [zjmp] using h)
  · refine lv_icmp_ge hx hb hd ht (fun h => kt ?_ _ hV2) (fun h => kf ?_ _ hV2) <;> (simp only [ge_iff_le, z32_le] at h; simpa [zjmp] using h)
  · refine lv_icmp_gt hx hb hd ht (fun h => kt ?_ _ hV2) (fun h => kf ?_ _ hV2) <;> (simp only [gt_iff_lt, z32_lt] at h; simpa [zjmp] using h)
  · refine lv_icmp_le hx hb hd ht (fun h => kt ?_ _ hV2) (fun h => kf ?_ _ hV2) <;> (rw [z32_le] at h; simpa [zjmp] using h)
theorem o_switch {a : Int} (hx : p.tables.exec = Jvm.exec) (hb : c.code = cc) {d lo hi : Int} {offs : Array Int} {len : Nat} (hd : decode cc pc = .ok (.tableswitch d lo hi offs, len)) {tgt : Nat → Nat} {t0 : Nat} (h0 : (pc : Int) + d = (t0 : Int)) (ho : ∀ j, j ≤ (hi - lo).toNat → ∃ off, offs[j]? = some off ∧ (pc : Int) + off = (tgt j : Int)) (hV : zvs K ws (vI a :: st) stC)
    (kd : (nrm a < lo ∨ hi < nrm a) → ∀ stC2, zvs K ws st stC2 → W p l e R s m args below meth c H locs cells slots Q (F0 m t0 lsC stC2)) (kj : ¬ (nrm a < lo ∨ hi < nrm a) → ∀ stC2, zvs K ws st stC2 → W p l e R s m args below meth c H locs cells slots Q (F0 m (tgt (nrm a - lo).toNat) lsC stC2)) : W p l e R s m args below meth c H locs cells slots Q (F0 m pc lsC stC) := by
  obtain ⟨c1, stC, rfl, h1, hV1⟩ := zvs_cons hV
  have h1 : c1 = .int (Int32.ofInt a) := h1
  subst h1
  by_cases hc : nrm a < lo ∨ hi < nrm a
  · exact lv_tableOut hx hb hd (by rw [z32_toInt]; exact hc) h0 (kd hc _ hV1)
  · obtain ⟨off, h2, h3⟩ := ho (nrm a - lo).toNat (by omega)
    exact lv_tableIn hx hb hd (by rw [z32_toInt]; omega) (by rw [z32_toInt]; omega) (by rw [z32_toInt]; exact h2) h3 (kj hc _ hV1)
end OPS
