theorem zrf_R (a : Option Nat) : zwide (vR a) = false ∧ (∀ x, vR a ≠ .inl x) ∧ (∀ x, vR a ≠ .inr (.inr (.inr (.inl x)))) := ⟨rfl, (fun _ h => by cases h), (fun _ h => by cases h)⟩
theorem zrf_M (a : Nat) : zwide (vM a) = false ∧ (∀ x, vM a ≠ .inl x) ∧ (∀ x, vM a ≠ .inr (.inr (.inr (.inl x)))) := ⟨rfl, (fun _ h => by cases h), (fun _ h => by cases h)⟩
theorem znar_ret3 {a : Int} {k : Nat} : (k = 0 ∨ (k = 1 ∧ 0 ≤ a ∧ a < 65536) ∨ (k = 2 ∧ (a = 0 ∨ a = 1))) → narrow (match k with | 0 => FieldType.int | 1 => .char | _ => .boolean) (.int (Int32.ofInt a)) = .int (Int32.ofInt a) := by
  intro h
  rcases h with rfl | ⟨rfl, h0, h1⟩ | ⟨rfl, rfl | rfl⟩
  · rfl
  · have e1 : Int32.ofInt a = nI a.toNat := by
      apply Int32.toInt_inj.mp
      rw [z32_toInt, nI_toInt (by omega), nrm_id (by omega) (by omega)]
      omega
    rw [e1]
    exact (pk_charN (by omega)).1
  · rfl
  · rfl
theorem zcl_own : ∀ {ci : Nat} {C : String} {T : u_T} {N : Nat}, zcl[ci]? = some (C, T, N) → ∀ k, (T k).1 ≠ "ShortsignLaw"
  | 0, _, _, _, h, k => by cases h; unfold TX0; split <;> decide
  | 1, _, _, _, h, k => by cases h; unfold TX1; split <;> decide
  | 2, _, _, _, h, k => by cases h; unfold TX2; split <;> decide
  | 3, _, _, _, h, k => by cases h; unfold TX3; split <;> decide
  | 4, _, _, _, h, k => by cases h; unfold TX4; split <;> decide
  | 5, _, _, _, h, k => by cases h; unfold TX5; split <;> decide
  | 6, _, _, _, h, k => by cases h; unfold TX6; split <;> decide
  | 7, _, _, _, h, k => by cases h; unfold TJx4a65c; split <;> decide
  | n + 8, _, _, _, h, k => by simp [zcl] at h
theorem zinit_lt {y ci k : Nat} (hy : y < 296) (h : ∃ C T N, zcl[ci]? = some (C, T, N) ∧ (T k).1 = zcn (zow y)) : y < 295 := by
  rcases Nat.lt_or_ge y 295 with h9 | h9
  · exact h9
  · have h10 : y = 295 := by omega
    subst h10
    obtain ⟨C, T, N, h1, h2⟩ := h
    exact absurd h2 (zcl_own h1 k)
set_option maxHeartbeats 16000000 in
set_option maxRecDepth 100000 in
theorem zB_step {K : ZK} {l : Launch} {n : Nat} (ih : zBody K l n) : zBody K l (n + 1) := by
  intro y p e R s m args below meth c code ls st h h0 res lsC stC H locs cells slots ws ws0 hr hck hcp hFC hz9 hK hP hD hS hH hL hV hx0 hc hs hRc hRs
  obtain ⟨hy, hx, hb, hret, hml, hown, hlk, hnm, htab, hCX, hRf, hRl, hst⟩ := id hFC
  have hts := hCX.1
  have hba : zba K ≤ s.heap.size := hCX.2.2.2.2.2.2.2.2.2.2.2.2.1
  have hAA : zAA K s := hCX.2.2.2.2.2.2.2.2.2.2.2.1
  have hle := zrun_le _ _ _ _ _ _ _ hr
  match code, hr, hck, hcp with
  | [], hr, _, _ => simp [zrun] at hr
  | (pc, i, x) :: r, hr, hck, hcp =>
    simp only [zrun] at hr
    obtain ⟨hk1, hkr⟩ : zck1 y pc i x r = true ∧ zckB y r = true := by simpa [zckB] using hck
    simp only [List.all_cons, zckQ1, Bool.and_eq_true] at hcp
    obtain ⟨⟨⟨hp1, hi1⟩, hs1⟩, hpr⟩ := hcp
    have kont : ∀ (code' : List AI) (ls' : Lc) (st' : Sk) (h' : Hp) (lsC' : Array Slot) (stC' : List Value) (H' : Heap) (locs' : List Loc) (cells' slots' : Nat) (ws' : va_W), zrun (zsc K) zprog zmxl zfks n y code' ls' st' h' = some res → zckB y code' = true → code'.all (zckQ1 y) = true → va_P (zD K) zcl ws' H' → va_D (zA K) ws' → va_S (zA K) s.heap H' locs' → zHR K ws' h' → zLR K ws' ls' lsC' (zmxl y) → zvs K ws' st' stC' → zex ws ws' → cells' + zCn h0 = zCn h' → slots' + zSz h0 = zSz h' →
        W p l e R s m args below meth c H' locs' cells' slots' (vx_MQ below (zQ K ws0 res) (zX K ws0 res) args s (zCn res.2 - zCn h0) (zSz res.2 - zSz h0) (zA K)) (F0 m (hdp code') lsC' stC') :=
      fun code' ls' st' h' lsC' stC' H' locs' cells' slots' ws' a1 a2 a3 a4 a5 a6 a7 a8 a9 a10 a11 a12 => ih y p e R s m args below meth c code' ls' st' h' h0 res lsC' stC' H' locs' cells' slots' ws' ws0 a1 a2 a3 hFC hz9 hK a4 a5 a6 a7 a8 a9 (hx0.tr a10) a11 a12 hRc hRs
    have kr : ∀ (pc' : Nat), hdp r = pc' → ∀ (ls' : Lc) (st' : Sk) (lsC' : Array Slot) (stC' : List Value), zrun (zsc K) zprog zmxl zfks n y r ls' st' h = some res → zLR K ws ls' lsC' (zmxl y) → zvs K ws st' stC' → W p l e R s m args below meth c H locs cells slots (vx_MQ below (zQ K ws0 res) (zX K ws0 res) args s (zCn res.2 - zCn h0) (zSz res.2 - zSz h0) (zA K)) (F0 m pc' lsC' stC') :=
      fun pc' e' ls' st' lsC' stC' a1 a8 a9 => by
        subst e'
        exact kont r ls' st' h lsC' stC' H locs cells slots ws a1 hkr hpr hP hD hS hH a8 a9 (zex.rf ws) hc hs
    have kj : ∀ (L : Nat) (ls' : Lc) (st' : Sk) (lsC' : Array Slot) (stC' : List Value), zrun (zsc K) zprog zmxl zfks n y (zprog y L) ls' st' h = some res → zLR K ws ls' lsC' (zmxl y) → zvs K ws st' stC' → W p l e R s m args below meth c H locs cells slots (vx_MQ below (zQ K ws0 res) (zX K ws0 res) args s (zCn res.2 - zCn h0) (zSz res.2 - zSz h0) (zA K)) (F0 m (hdp (zprog y L)) lsC' stC') :=
      fun L ls' st' lsC' stC' a1 a8 a9 => kont _ ls' st' h lsC' stC' H locs cells slots ws a1 (zQ_block hy).1 (zQ_block hy).2 hP hD hS hH a8 a9 (zex.rf ws) hc hs
    have kh : ∀ (pc' : Nat), hdp r = pc' → ∀ (st' : Sk) (h' : Hp), zrun (zsc K) zprog zmxl zfks n y r ls st' h' = some res → zCn h' = zCn h → zSz h' = zSz h → ∀ (ws2 : va_W) (H1 : Heap) (locs1 : List Loc) (stC2 : List Value), zex ws ws2 → va_P (zD K) zcl ws2 H1 → va_D (zA K) ws2 → va_S (zA K) s.heap H1 locs1 → zHR K ws2 h' → zvs K ws2 st' stC2 → W p l e R s m args below meth c H1 locs1 cells slots (vx_MQ below (zQ K ws0 res) (zX K ws0 res) args s (zCn res.2 - zCn h0) (zSz res.2 - zSz h0) (zA K)) (F0 m pc' lsC stC2) :=
      fun pc' e' st' h' a1 b1 b2 ws2 H1 locs1 stC2 a2 a3 a4 a5 a6 a7 => by
        subst e'
        exact kont r ls st' h' lsC stC2 H1 locs1 cells slots ws2 a1 hkr hpr a3 a4 a5 a6 (hL.mono a2) a7 a2 (by omega) (by omega)
    have kn : ∀ (pc' : Nat), hdp r = pc' → ∀ (st' : Sk) (h' : Hp) (a b : Nat), zrun (zsc K) zprog zmxl zfks n y r ls st' h' = some res → zCn h' = zCn h + a → zSz h' = zSz h + b → ∀ (ws2 : va_W) (H1 : Heap) (stC2 : List Value), zex ws ws2 → va_P (zD K) zcl ws2 H1 → va_D (zA K) ws2 → va_S (zA K) s.heap H1 locs → zHR K ws2 h' → zvs K ws2 st' stC2 → W p l e R s m args below meth c H1 locs (cells + a) (slots + b) (vx_MQ below (zQ K ws0 res) (zX K ws0 res) args s (zCn res.2 - zCn h0) (zSz res.2 - zSz h0) (zA K)) (F0 m pc' lsC stC2) :=
      fun pc' e' st' h' a b a1 b1 b2 ws2 H1 stC2 a2 a3 a4 a5 a6 a7 => by
        subst e'
        exact kont r ls st' h' lsC stC2 H1 locs _ _ ws2 a1 hkr hpr a3 a4 a5 a6 (hL.mono a2) a7 a2 (by omega) (by omega)
    show W p l e R s m args below meth c H locs cells slots _ (F0 m pc lsC stC)
    cases i with
    | iadd =>
      dsimp only [zstp] at hr
      split at hr
      · rename_i b a st2
        obtain ⟨i', len, hd, hm⟩ := zck1_dec (fun h => by cases h) (fun h => by cases h) hk1
        dsimp only [zmat] at hm
        simp only [Bool.and_eq_true, decide_eq_true_eq, beq_iff_eq] at hm
        obtain ⟨⟨rfl, rfl⟩, hn⟩ := hm
        exact o_iadd hx hb hd hV (fun stC2 hV2 => kr _ hn _ _ _ _ hr hL hV2)
      · cases hr
    | isub =>
      dsimp only [zstp] at hr
      split at hr
      · rename_i b a st2
        obtain ⟨i', len, hd, hm⟩ := zck1_dec (fun h => by cases h) (fun h => by cases h) hk1
        dsimp only [zmat] at hm
        simp only [Bool.and_eq_true, decide_eq_true_eq, beq_iff_eq] at hm
        obtain ⟨⟨rfl, rfl⟩, hn⟩ := hm
        exact o_isub hx hb hd hV (fun stC2 hV2 => kr _ hn _ _ _ _ hr hL hV2)
      · cases hr
    | imul =>
      dsimp only [zstp] at hr
      split at hr
      · rename_i b a st2
        obtain ⟨i', len, hd, hm⟩ := zck1_dec (fun h => by cases h) (fun h => by cases h) hk1
        dsimp only [zmat] at hm
        simp only [Bool.and_eq_true, decide_eq_true_eq, beq_iff_eq] at hm
        obtain ⟨⟨rfl, rfl⟩, hn⟩ := hm
        exact o_imul hx hb hd hV (fun stC2 hV2 => kr _ hn _ _ _ _ hr hL hV2)
      · cases hr
    | iand =>
      dsimp only [zstp] at hr
      split at hr
      · rename_i b a st2
        obtain ⟨i', len, hd, hm⟩ := zck1_dec (fun h => by cases h) (fun h => by cases h) hk1
        dsimp only [zmat] at hm
        simp only [Bool.and_eq_true, decide_eq_true_eq, beq_iff_eq] at hm
        obtain ⟨⟨rfl, rfl⟩, hn⟩ := hm
        exact o_iand hx hb hd hV (fun stC2 hV2 => kr _ hn _ _ _ _ hr hL hV2)
      · cases hr
    | ixor =>
      dsimp only [zstp] at hr
      split at hr
      · rename_i b a st2
        obtain ⟨i', len, hd, hm⟩ := zck1_dec (fun h => by cases h) (fun h => by cases h) hk1
        dsimp only [zmat] at hm
        simp only [Bool.and_eq_true, decide_eq_true_eq, beq_iff_eq] at hm
        obtain ⟨⟨rfl, rfl⟩, hn⟩ := hm
        exact o_ixor hx hb hd hV (fun stC2 hV2 => kr _ hn _ _ _ _ hr hL hV2)
      · cases hr
    | ishl =>
      dsimp only [zstp] at hr
      split at hr
      · rename_i b a st2
        obtain ⟨i', len, hd, hm⟩ := zck1_dec (fun h => by cases h) (fun h => by cases h) hk1
        dsimp only [zmat] at hm
        simp only [Bool.and_eq_true, decide_eq_true_eq, beq_iff_eq] at hm
        obtain ⟨⟨rfl, rfl⟩, hn⟩ := hm
        exact o_ishl hx hb hd hV (fun stC2 hV2 => kr _ hn _ _ _ _ hr hL hV2)
      · cases hr
    | ishr =>
      dsimp only [zstp] at hr
      split at hr
      · rename_i b a st2
        obtain ⟨i', len, hd, hm⟩ := zck1_dec (fun h => by cases h) (fun h => by cases h) hk1
        dsimp only [zmat] at hm
        simp only [Bool.and_eq_true, decide_eq_true_eq, beq_iff_eq] at hm
        obtain ⟨⟨rfl, rfl⟩, hn⟩ := hm
        exact o_ishr hx hb hd hV (fun stC2 hV2 => kr _ hn _ _ _ _ hr hL hV2)
      · cases hr
    | ladd =>
      dsimp only [zstp] at hr
      split at hr
      · rename_i b a st2
        obtain ⟨i', len, hd, hm⟩ := zck1_dec (fun h => by cases h) (fun h => by cases h) hk1
        dsimp only [zmat] at hm
        simp only [Bool.and_eq_true, decide_eq_true_eq, beq_iff_eq] at hm
        obtain ⟨⟨rfl, rfl⟩, hn⟩ := hm
        exact o_ladd hx hb hd hV (fun stC2 hV2 => kr _ hn _ _ _ _ hr hL hV2)
      · cases hr
    | lmul =>
      dsimp only [zstp] at hr
      split at hr
      · rename_i b a st2
        obtain ⟨i', len, hd, hm⟩ := zck1_dec (fun h => by cases h) (fun h => by cases h) hk1
        dsimp only [zmat] at hm
        simp only [Bool.and_eq_true, decide_eq_true_eq, beq_iff_eq] at hm
        obtain ⟨⟨rfl, rfl⟩, hn⟩ := hm
        exact o_lmul hx hb hd hV (fun stC2 hV2 => kr _ hn _ _ _ _ hr hL hV2)
      · cases hr
    | lcmp =>
      dsimp only [zstp] at hr
      split at hr
      · rename_i b a st2
        obtain ⟨i', len, hd, hm⟩ := zck1_dec (fun h => by cases h) (fun h => by cases h) hk1
        dsimp only [zmat] at hm
        simp only [Bool.and_eq_true, decide_eq_true_eq, beq_iff_eq] at hm
        obtain ⟨⟨rfl, rfl⟩, hn⟩ := hm
        exact o_lcmp hx hb hd hV (fun stC2 hV2 => kr _ hn _ _ _ _ hr hL hV2)
      · cases hr
    | i2l =>
      dsimp only [zstp] at hr
      split at hr
      · rename_i a st2
        obtain ⟨i', len, hd, hm⟩ := zck1_dec (fun h => by cases h) (fun h => by cases h) hk1
        dsimp only [zmat] at hm
        simp only [Bool.and_eq_true, decide_eq_true_eq, beq_iff_eq] at hm
        obtain ⟨⟨rfl, rfl⟩, hn⟩ := hm
        exact o_i2l hx hb hd hV (fun stC2 hV2 => kr _ hn _ _ _ _ hr hL hV2)
      · cases hr
    | l2i =>
      dsimp only [zstp] at hr
      split at hr
      · rename_i a st2
        obtain ⟨i', len, hd, hm⟩ := zck1_dec (fun h => by cases h) (fun h => by cases h) hk1
        dsimp only [zmat] at hm
        simp only [Bool.and_eq_true, decide_eq_true_eq, beq_iff_eq] at hm
        obtain ⟨⟨rfl, rfl⟩, hn⟩ := hm
        exact o_l2i hx hb hd hV (fun stC2 hV2 => kr _ hn _ _ _ _ hr hL hV2)
      · cases hr
    | i2c =>
      dsimp only [zstp] at hr
      split at hr
      · rename_i a st2
        obtain ⟨i', len, hd, hm⟩ := zck1_dec (fun h => by cases h) (fun h => by cases h) hk1
        dsimp only [zmat] at hm
        simp only [Bool.and_eq_true, decide_eq_true_eq, beq_iff_eq] at hm
        obtain ⟨⟨rfl, rfl⟩, hn⟩ := hm
        exact o_i2c hx hb hd hV (fun stC2 hV2 => kr _ hn _ _ _ _ hr hL hV2)
      · cases hr
    | i2f =>
      dsimp only [zstp] at hr
      split at hr
      · rename_i a st2
        obtain ⟨i', len, hd, hm⟩ := zck1_dec (fun h => by cases h) (fun h => by cases h) hk1
        dsimp only [zmat] at hm
        simp only [Bool.and_eq_true, decide_eq_true_eq, beq_iff_eq] at hm
        obtain ⟨⟨rfl, rfl⟩, hn⟩ := hm
        exact o_i2f hx hb hd hV (fun stC2 hV2 => kr _ hn _ _ _ _ hr hL hV2)
      · cases hr
    | i2d =>
      dsimp only [zstp] at hr
      split at hr
      · rename_i a st2
        obtain ⟨i', len, hd, hm⟩ := zck1_dec (fun h => by cases h) (fun h => by cases h) hk1
        dsimp only [zmat] at hm
        simp only [Bool.and_eq_true, decide_eq_true_eq, beq_iff_eq] at hm
        obtain ⟨⟨rfl, rfl⟩, hn⟩ := hm
        exact o_i2d hx hb hd hV (fun stC2 hV2 => kr _ hn _ _ _ _ hr hL hV2)
      · cases hr
    | idiv =>
      dsimp only [zstp] at hr
      split at hr
      · rename_i b a st2
        split at hr
        · cases hr
        · rename_i hz
          obtain ⟨i', len, hd, hm⟩ := zck1_dec (fun h => by cases h) (fun h => by cases h) hk1
          dsimp only [zmat] at hm
          simp only [Bool.and_eq_true, decide_eq_true_eq, beq_iff_eq] at hm
          obtain ⟨⟨rfl, rfl⟩, hn⟩ := hm
          exact o_idiv hx hb hd hz hV (fun stC2 hV2 => kr _ hn _ _ _ _ hr hL hV2)
      · cases hr
    | irem =>
      dsimp only [zstp] at hr
      split at hr
      · rename_i b a st2
        split at hr
        · cases hr
        · rename_i hz
          obtain ⟨i', len, hd, hm⟩ := zck1_dec (fun h => by cases h) (fun h => by cases h) hk1
          dsimp only [zmat] at hm
          simp only [Bool.and_eq_true, decide_eq_true_eq, beq_iff_eq] at hm
          obtain ⟨⟨rfl, rfl⟩, hn⟩ := hm
          exact o_irem hx hb hd hz hV (fun stC2 hV2 => kr _ hn _ _ _ _ hr hL hV2)
      · cases hr
    | ldiv =>
      dsimp only [zstp] at hr
      split at hr
      · rename_i b a st2
        split at hr
        · cases hr
        · rename_i hz
          obtain ⟨i', len, hd, hm⟩ := zck1_dec (fun h => by cases h) (fun h => by cases h) hk1
          dsimp only [zmat] at hm
          simp only [Bool.and_eq_true, decide_eq_true_eq, beq_iff_eq] at hm
          obtain ⟨⟨rfl, rfl⟩, hn⟩ := hm
          exact o_ldiv hx hb hd hz hV (fun stC2 hV2 => kr _ hn _ _ _ _ hr hL hV2)
      · cases hr
    | lrem =>
      dsimp only [zstp] at hr
      split at hr
      · rename_i b a st2
        split at hr
        · cases hr
        · rename_i hz
          obtain ⟨i', len, hd, hm⟩ := zck1_dec (fun h => by cases h) (fun h => by cases h) hk1
          dsimp only [zmat] at hm
          simp only [Bool.and_eq_true, decide_eq_true_eq, beq_iff_eq] at hm
          obtain ⟨⟨rfl, rfl⟩, hn⟩ := hm
          exact o_lrem hx hb hd hz hV (fun stC2 hV2 => kr _ hn _ _ _ _ hr hL hV2)
      · cases hr
    | f2d =>
      dsimp only [zstp] at hr
      split at hr
      · rename_i a st2
        split at hr
        · rename_i hz
          obtain ⟨i', len, hd, hm⟩ := zck1_dec (fun h => by cases h) (fun h => by cases h) hk1
          dsimp only [zmat] at hm
          simp only [Bool.and_eq_true, decide_eq_true_eq, beq_iff_eq] at hm
          obtain ⟨⟨rfl, rfl⟩, hn⟩ := hm
          exact o_f2d hx hb hd hz hV (fun stC2 hV2 => kr _ hn _ _ _ _ hr hL hV2)
        · cases hr
      · cases hr
    | fdiv =>
      dsimp only [zstp] at hr
      split at hr
      · rename_i b a st2
        split at hr
        · rename_i hz
          obtain ⟨i', len, hd, hm⟩ := zck1_dec (fun h => by cases h) (fun h => by cases h) hk1
          dsimp only [zmat] at hm
          simp only [Bool.and_eq_true, decide_eq_true_eq, beq_iff_eq] at hm
          obtain ⟨⟨rfl, rfl⟩, hn⟩ := hm
          exact o_fdiv hx hb hd hz hV (fun stC2 hV2 => kr _ hn _ _ _ _ hr hL hV2)
        · cases hr
      · cases hr
    | ddiv =>
      dsimp only [zstp] at hr
      split at hr
      · rename_i b a st2
        split at hr
        · rename_i hz
          obtain ⟨i', len, hd, hm⟩ := zck1_dec (fun h => by cases h) (fun h => by cases h) hk1
          dsimp only [zmat] at hm
          simp only [Bool.and_eq_true, decide_eq_true_eq, beq_iff_eq] at hm
          obtain ⟨⟨rfl, rfl⟩, hn⟩ := hm
          exact o_ddiv hx hb hd hz hV (fun stC2 hV2 => kr _ hn _ _ _ _ hr hL hV2)
        · cases hr
      · cases hr
    | fcmp o =>
      dsimp only [zstp] at hr
      split at hr
      · rename_i b a st2
        obtain ⟨i', len, hd, hm⟩ := zck1_dec (fun h => by cases h) (fun h => by cases h) hk1
        dsimp only [zmat] at hm
        simp only [Bool.and_eq_true, decide_eq_true_eq, beq_iff_eq] at hm
        obtain ⟨⟨rfl, rfl⟩, hn⟩ := hm
        exact o_fcmp hx hb hd hV (fun stC2 hV2 => kr _ hn _ _ _ _ hr hL hV2)
      · cases hr
    | dcmp o =>
      dsimp only [zstp] at hr
      split at hr
      · rename_i b a st2
        obtain ⟨i', len, hd, hm⟩ := zck1_dec (fun h => by cases h) (fun h => by cases h) hk1
        dsimp only [zmat] at hm
        simp only [Bool.and_eq_true, decide_eq_true_eq, beq_iff_eq] at hm
        obtain ⟨⟨rfl, rfl⟩, hn⟩ := hm
        exact o_dcmp hx hb hd hV (fun stC2 hV2 => kr _ hn _ _ _ _ hr hL hV2)
      · cases hr
    | aconst_null =>
      dsimp only [zstp] at hr
      obtain ⟨i', len, hd, hm⟩ := zck1_dec (fun h => by cases h) (fun h => by cases h) hk1
      dsimp only [zmat] at hm
      simp only [Bool.and_eq_true, decide_eq_true_eq, beq_iff_eq] at hm
      obtain ⟨⟨rfl, rfl⟩, hn⟩ := hm
      exact o_null hx hb hd hV (fun stC2 hV2 => kr _ hn _ _ _ _ hr hL hV2)
    | nop =>
      dsimp only [zstp] at hr
      dsimp only [zck1] at hk1
      simp only [beq_iff_eq] at hk1
      rw [← hk1]
      exact kj _ _ _ _ _ hr hL hV
    | iconst k =>
      dsimp only [zstp] at hr
      obtain ⟨i', len, hd, hm⟩ := zck1_dec (fun h => by cases h) (fun h => by cases h) hk1
      dsimp only [zmat] at hm
      simp only [zckI1, Bool.or_eq_true, Bool.and_eq_true, decide_eq_true_eq] at hi1
      rcases Bool.or_eq_true_iff.mp hm with hm | hm
      · rcases Bool.or_eq_true_iff.mp hm with hm | hm
        · simp only [Bool.and_eq_true, decide_eq_true_eq, beq_iff_eq] at hm
          obtain ⟨⟨rfl, rfl⟩, hn⟩ := hm
          exact lv_iconst (v := Int32.ofInt k) hx hb hd rfl (kr _ hn _ _ _ _ hr hL ⟨rfl, hV⟩)
        · simp only [Bool.and_eq_true, decide_eq_true_eq, beq_iff_eq] at hm
          obtain ⟨⟨rfl, rfl⟩, hn⟩ := hm
          rcases hi1 with h8 | ⟨-, h8⟩
          · exact lv_bipush hx hb hd (z8_of h8) (kr _ hn _ _ _ _ hr hL ⟨rfl, hV⟩)
          · rw [hd] at h8
            cases h8
      · simp only [Bool.and_eq_true, decide_eq_true_eq, beq_iff_eq] at hm
        obtain ⟨⟨rfl, rfl⟩, hn⟩ := hm
        exact lv_sipush hx hb hd (z16_of (by omega)) (kr _ hn _ _ _ _ hr hL ⟨rfl, hV⟩)
    | ldc idx0 =>
      dsimp only [zstp] at hr
      obtain ⟨i', len, hd, hm⟩ := zck1_dec (fun h => by cases h) (fun h => by cases h) hk1
      dsimp only [zmat] at hm
      split at hm
      · simp only [Bool.and_eq_true, beq_iff_eq] at hm
        obtain ⟨⟨rfl, hn⟩, hw⟩ := hm
        exact lv_ldc hx hb hown (hts _ (zki_ok hw) args) hd (kr _ hn _ _ _ _ hr hL ⟨rfl, hV⟩)
      · simp only [Bool.and_eq_true, beq_iff_eq] at hm
        obtain ⟨⟨rfl, hn⟩, hw⟩ := hm
        exact lv_ldcw hx hb hown (hts _ (zki_ok hw) args) hd (kr _ hn _ _ _ _ hr hL ⟨rfl, hV⟩)
      · cases hm
    | ldc2_w idx0 =>
      dsimp only [zstp] at hr
      obtain ⟨i', len, hd, hm⟩ := zck1_dec (fun h => by cases h) (fun h => by cases h) hk1
      dsimp only [zmat] at hm
      split at hm
      · rename_i k
        simp only [Bool.and_eq_true, beq_iff_eq] at hm
        obtain ⟨⟨rfl, rfl⟩, hn⟩ := hm
        refine lv_lconst (v := Int64.ofInt (k.val : Int)) hx hb hd Int64.ofInt_eq_ofNat.symm (kr _ hn _ _ _ _ hr hL ⟨?_, hV⟩)
        show _ = _
        simp
      · simp only [Bool.and_eq_true, beq_iff_eq] at hm
        obtain ⟨⟨rfl, hn⟩, hw⟩ := hm
        exact lv_ldc2 hx hb hown (hts _ (zkj_ok hw) args) hd (kr _ hn _ _ _ _ hr hL ⟨rfl, hV⟩)
      · cases hm
    | fconst k =>
      dsimp only [zstp] at hr
      obtain ⟨i', len, hd, hm⟩ := zck1_dec (fun h => by cases h) (fun h => by cases h) hk1
      dsimp only [zmat] at hm
      simp only [Bool.and_eq_true, decide_eq_true_eq, beq_iff_eq] at hm
      obtain ⟨⟨⟨rfl, hk0⟩, rfl⟩, hn⟩ := hm
      have hk : k = 0 := Fin.ext hk0
      subst hk
      exact o_fconst hx hb hd hV (fun stC2 hV2 => kr _ hn _ _ _ _ hr hL hV2)
    | dconst k =>
      dsimp only [zstp] at hr
      obtain ⟨i', len, hd, hm⟩ := zck1_dec (fun h => by cases h) (fun h => by cases h) hk1
      dsimp only [zmat] at hm
      simp only [Bool.and_eq_true, decide_eq_true_eq, beq_iff_eq] at hm
      obtain ⟨⟨⟨rfl, hk0⟩, rfl⟩, hn⟩ := hm
      have hk : k = 0 := Fin.ext hk0
      subst hk
      exact o_dconst hx hb hd hV (fun stC2 hV2 => kr _ hn _ _ _ _ hr hL hV2)
    | iload k =>
      dsimp only [zstp] at hr
      split at hr
      · rename_i a hl
        obtain ⟨i', len, hd, hm⟩ := zck1_dec (fun h => by cases h) (fun h => by cases h) hk1
        dsimp only [zmat] at hm
        rcases Bool.or_eq_true_iff.mp hm with hm | hm
        · simp only [Bool.and_eq_true, decide_eq_true_eq, beq_iff_eq] at hm
          obtain ⟨⟨rfl, rfl⟩, hn⟩ := hm
          exact o_iload hx hb hd hl hL hV (fun stC2 hV2 => kr _ hn _ _ _ _ hr hL hV2)
        · split at hm
          · rename_i k9
            simp only [Bool.and_eq_true, beq_iff_eq] at hm
            obtain ⟨⟨rfl, rfl⟩, hn⟩ := hm
            exact o_iload_n hx hb hd hl hL hV (fun stC2 hV2 => kr _ hn _ _ _ _ hr hL hV2)
          · cases hm
      · cases hr
    | lload k =>
      dsimp only [zstp] at hr
      split at hr
      · rename_i a hl
        obtain ⟨i', len, hd, hm⟩ := zck1_dec (fun h => by cases h) (fun h => by cases h) hk1
        dsimp only [zmat] at hm
        rcases Bool.or_eq_true_iff.mp hm with hm | hm
        · simp only [Bool.and_eq_true, decide_eq_true_eq, beq_iff_eq] at hm
          obtain ⟨⟨rfl, rfl⟩, hn⟩ := hm
          exact o_lload hx hb hd hl hL hV (fun stC2 hV2 => kr _ hn _ _ _ _ hr hL hV2)
        · split at hm
          · rename_i k9
            simp only [Bool.and_eq_true, beq_iff_eq] at hm
            obtain ⟨⟨rfl, rfl⟩, hn⟩ := hm
            exact o_lload_n hx hb hd hl hL hV (fun stC2 hV2 => kr _ hn _ _ _ _ hr hL hV2)
          · cases hm
      · cases hr
    | fload k =>
      dsimp only [zstp] at hr
      split at hr
      · rename_i a hl
        obtain ⟨i', len, hd, hm⟩ := zck1_dec (fun h => by cases h) (fun h => by cases h) hk1
        dsimp only [zmat] at hm
        simp only [Bool.and_eq_true, decide_eq_true_eq, beq_iff_eq] at hm
        obtain ⟨⟨rfl, rfl⟩, hn⟩ := hm
        exact o_fload hx hb hd hl hL hV (fun stC2 hV2 => kr _ hn _ _ _ _ hr hL hV2)
      · cases hr
    | dload k =>
      dsimp only [zstp] at hr
      split at hr
      · rename_i a hl
        obtain ⟨i', len, hd, hm⟩ := zck1_dec (fun h => by cases h) (fun h => by cases h) hk1
        dsimp only [zmat] at hm
        simp only [Bool.and_eq_true, decide_eq_true_eq, beq_iff_eq] at hm
        obtain ⟨⟨rfl, rfl⟩, hn⟩ := hm
        exact o_dload hx hb hd hl hL hV (fun stC2 hV2 => kr _ hn _ _ _ _ hr hL hV2)
      · cases hr
    | aload k =>
      dsimp only [zstp] at hr
      split at hr
      · rename_i a hl
        obtain ⟨i', len, hd, hm⟩ := zck1_dec (fun h => by cases h) (fun h => by cases h) hk1
        dsimp only [zmat] at hm
        rcases Bool.or_eq_true_iff.mp hm with hm | hm
        · simp only [Bool.and_eq_true, decide_eq_true_eq, beq_iff_eq] at hm
          obtain ⟨⟨rfl, rfl⟩, hn⟩ := hm
          exact o_aload (v := vR a) hx hb hd (by first | exact zrf_R _ | exact zrf_M _) hl hL hV (fun stC2 hV2 => kr _ hn _ _ _ _ hr hL hV2)
        · split at hm
          · rename_i k9
            simp only [Bool.and_eq_true, beq_iff_eq] at hm
            obtain ⟨⟨rfl, rfl⟩, hn⟩ := hm
            exact o_aload_n (v := vR a) hx hb hd (by first | exact zrf_R _ | exact zrf_M _) hl hL hV (fun stC2 hV2 => kr _ hn _ _ _ _ hr hL hV2)
          · cases hm
      · rename_i a hl
        obtain ⟨i', len, hd, hm⟩ := zck1_dec (fun h => by cases h) (fun h => by cases h) hk1
        dsimp only [zmat] at hm
        rcases Bool.or_eq_true_iff.mp hm with hm | hm
        · simp only [Bool.and_eq_true, decide_eq_true_eq, beq_iff_eq] at hm
          obtain ⟨⟨rfl, rfl⟩, hn⟩ := hm
          exact o_aload (v := vM a) hx hb hd (by first | exact zrf_R _ | exact zrf_M _) hl hL hV (fun stC2 hV2 => kr _ hn _ _ _ _ hr hL hV2)
        · split at hm
          · rename_i k9
            simp only [Bool.and_eq_true, beq_iff_eq] at hm
            obtain ⟨⟨rfl, rfl⟩, hn⟩ := hm
            exact o_aload_n (v := vM a) hx hb hd (by first | exact zrf_R _ | exact zrf_M _) hl hL hV (fun stC2 hV2 => kr _ hn _ _ _ _ hr hL hV2)
          · cases hm
      · cases hr
    | istore k =>
      dsimp only [zstp] at hr
      split at hr
      · rename_i a st2
        obtain ⟨ls2, hz, hr2⟩ := Option.bind_eq_some_iff.mp hr
        obtain ⟨i', len, hd, hm⟩ := zck1_dec (fun h => by cases h) (fun h => by cases h) hk1
        dsimp only [zmat] at hm
        rcases Bool.or_eq_true_iff.mp hm with hm | hm
        · simp only [Bool.and_eq_true, decide_eq_true_eq, beq_iff_eq] at hm
          obtain ⟨⟨rfl, rfl⟩, hn⟩ := hm
          exact o_istore hx hb hd hL hz hV (fun lsC2 stC2 hL2 hV2 => kr _ hn _ _ _ _ hr2 hL2 hV2)
        · split at hm
          · rename_i k9
            simp only [Bool.and_eq_true, beq_iff_eq] at hm
            obtain ⟨⟨rfl, rfl⟩, hn⟩ := hm
            exact o_istore_n hx hb hd hL hz hV (fun lsC2 stC2 hL2 hV2 => kr _ hn _ _ _ _ hr2 hL2 hV2)
          · cases hm
      · cases hr
    | lstore k =>
      dsimp only [zstp] at hr
      split at hr
      · rename_i a st2
        obtain ⟨ls2, hz, hr2⟩ := Option.bind_eq_some_iff.mp hr
        obtain ⟨i', len, hd, hm⟩ := zck1_dec (fun h => by cases h) (fun h => by cases h) hk1
        dsimp only [zmat] at hm
        rcases Bool.or_eq_true_iff.mp hm with hm | hm
        · simp only [Bool.and_eq_true, decide_eq_true_eq, beq_iff_eq] at hm
          obtain ⟨⟨rfl, rfl⟩, hn⟩ := hm
          exact o_lstore hx hb hd hL hz hV (fun lsC2 stC2 hL2 hV2 => kr _ hn _ _ _ _ hr2 hL2 hV2)
        · split at hm
          · rename_i k9
            simp only [Bool.and_eq_true, beq_iff_eq] at hm
            obtain ⟨⟨rfl, rfl⟩, hn⟩ := hm
            exact o_lstore_n hx hb hd hL hz hV (fun lsC2 stC2 hL2 hV2 => kr _ hn _ _ _ _ hr2 hL2 hV2)
          · cases hm
      · cases hr
    | fstore k =>
      dsimp only [zstp] at hr
      split at hr
      · rename_i a st2
        obtain ⟨ls2, hz, hr⟩ := Option.bind_eq_some_iff.mp hr
        obtain ⟨i', len, hd, hm⟩ := zck1_dec (fun h => by cases h) (fun h => by cases h) hk1
        dsimp only [zmat] at hm
        simp only [Bool.and_eq_true, decide_eq_true_eq, beq_iff_eq] at hm
        obtain ⟨⟨rfl, rfl⟩, hn⟩ := hm
        exact o_fstore hx hb hd hL hz hV (fun lsC2 stC2 hL2 hV2 => kr _ hn _ _ _ _ hr hL2 hV2)
      · cases hr
    | dstore k =>
      dsimp only [zstp] at hr
      split at hr
      · rename_i a st2
        obtain ⟨ls2, hz, hr⟩ := Option.bind_eq_some_iff.mp hr
        obtain ⟨i', len, hd, hm⟩ := zck1_dec (fun h => by cases h) (fun h => by cases h) hk1
        dsimp only [zmat] at hm
        simp only [Bool.and_eq_true, decide_eq_true_eq, beq_iff_eq] at hm
        obtain ⟨⟨rfl, rfl⟩, hn⟩ := hm
        exact o_dstore hx hb hd hL hz hV (fun lsC2 stC2 hL2 hV2 => kr _ hn _ _ _ _ hr hL2 hV2)
      · cases hr
    | astore k =>
      dsimp only [zstp] at hr
      split at hr
      · rename_i a st2 h9x
        obtain ⟨ls2, hz, hr2⟩ := Option.bind_eq_some_iff.mp hr
        obtain ⟨i', len, hd, hm⟩ := zck1_dec (fun h => by cases h) (fun h => by cases h) hk1
        dsimp only [zmat] at hm
        rcases Bool.or_eq_true_iff.mp hm with hm | hm
        · simp only [Bool.and_eq_true, decide_eq_true_eq, beq_iff_eq] at hm
          obtain ⟨⟨rfl, rfl⟩, hn⟩ := hm
          exact o_astore (v := vR a) hx hb (by first | exact zrf_R _ | exact zrf_M _) hd hL hz hV (fun lsC2 stC2 hL2 hV2 => kr _ hn _ _ _ _ hr2 hL2 hV2)
        · split at hm
          · rename_i k9
            simp only [Bool.and_eq_true, beq_iff_eq] at hm
            obtain ⟨⟨rfl, rfl⟩, hn⟩ := hm
            exact o_astore_n (v := vR a) hx hb (by first | exact zrf_R _ | exact zrf_M _) hd hL hz hV (fun lsC2 stC2 hL2 hV2 => kr _ hn _ _ _ _ hr2 hL2 hV2)
          · cases hm
      · rename_i a st2 h9x
        obtain ⟨ls2, hz, hr2⟩ := Option.bind_eq_some_iff.mp hr
        obtain ⟨i', len, hd, hm⟩ := zck1_dec (fun h => by cases h) (fun h => by cases h) hk1
        dsimp only [zmat] at hm
        rcases Bool.or_eq_true_iff.mp hm with hm | hm
        · simp only [Bool.and_eq_true, decide_eq_true_eq, beq_iff_eq] at hm
          obtain ⟨⟨rfl, rfl⟩, hn⟩ := hm
          exact o_astore (v := vM a) hx hb (by first | exact zrf_R _ | exact zrf_M _) hd hL hz hV (fun lsC2 stC2 hL2 hV2 => kr _ hn _ _ _ _ hr2 hL2 hV2)
        · split at hm
          · rename_i k9
            simp only [Bool.and_eq_true, beq_iff_eq] at hm
            obtain ⟨⟨rfl, rfl⟩, hn⟩ := hm
            exact o_astore_n (v := vM a) hx hb (by first | exact zrf_R _ | exact zrf_M _) hd hL hz hV (fun lsC2 stC2 hL2 hV2 => kr _ hn _ _ _ _ hr2 hL2 hV2)
          · cases hm
      · cases hr
    | iinc k d =>
      dsimp only [zstp] at hr
      split at hr
      · rename_i a hl
        obtain ⟨ls2, hz, hr⟩ := Option.bind_eq_some_iff.mp hr
        obtain ⟨i', len, hd, hm⟩ := zck1_dec (fun h => by cases h) (fun h => by cases h) hk1
        dsimp only [zmat] at hm
        simp only [Bool.and_eq_true, decide_eq_true_eq, beq_iff_eq] at hm
        obtain ⟨⟨rfl, rfl⟩, hn⟩ := hm
        exact o_iinc hx hb hd hL hl hz hV (fun lsC2 stC2 hL2 hV2 => kr _ hn _ _ _ _ hr hL2 hV2)
      · cases hr
    | dup =>
      dsimp only [zstp] at hr
      split at hr
      · rename_i v st2
        split at hr
        · cases hr
        · rename_i hw
          obtain ⟨i', len, hd, hm⟩ := zck1_dec (fun h => by cases h) (fun h => by cases h) hk1
          dsimp only [zmat] at hm
          simp only [Bool.and_eq_true, decide_eq_true_eq, beq_iff_eq] at hm
          obtain ⟨⟨rfl, rfl⟩, hn⟩ := hm
          exact o_dup hx hb hd (by simpa using hw) hV (fun stC2 hV2 => kr _ hn _ _ _ _ hr hL hV2)
      · cases hr
    | pop =>
      dsimp only [zstp] at hr
      split at hr
      · rename_i v st2
        split at hr
        · cases hr
        · rename_i hw
          obtain ⟨i', len, hd, hm⟩ := zck1_dec (fun h => by cases h) (fun h => by cases h) hk1
          dsimp only [zmat] at hm
          simp only [Bool.and_eq_true, decide_eq_true_eq, beq_iff_eq] at hm
          obtain ⟨⟨rfl, rfl⟩, hn⟩ := hm
          exact o_pop hx hb hd (by simpa using hw) hV (fun stC2 hV2 => kr _ hn _ _ _ _ hr hL hV2)
      · cases hr
    | dup_x1 =>
      dsimp only [zstp] at hr
      split at hr
      · rename_i v w st2
        split at hr
        · cases hr
        · rename_i hw
          simp only [not_or, Bool.not_eq_true] at hw
          obtain ⟨i', len, hd, hm⟩ := zck1_dec (fun h => by cases h) (fun h => by cases h) hk1
          dsimp only [zmat] at hm
          simp only [Bool.and_eq_true, decide_eq_true_eq, beq_iff_eq] at hm
          obtain ⟨⟨rfl, rfl⟩, hn⟩ := hm
          exact o_dup_x1 hx hb hd hw.1 hw.2 hV (fun stC2 hV2 => kr _ hn _ _ _ _ hr hL hV2)
      · cases hr
    | dup2 =>
      dsimp only [zstp] at hr
      split at hr
      · rename_i v w st2
        split at hr
        · cases hr
        · rename_i hw
          simp only [not_or, Bool.not_eq_true] at hw
          obtain ⟨i', len, hd, hm⟩ := zck1_dec (fun h => by cases h) (fun h => by cases h) hk1
          dsimp only [zmat] at hm
          simp only [Bool.and_eq_true, decide_eq_true_eq, beq_iff_eq] at hm
          obtain ⟨⟨rfl, rfl⟩, hn⟩ := hm
          exact o_dup2 hx hb hd hw.1 hw.2 hV (fun stC2 hV2 => kr _ hn _ _ _ _ hr hL hV2)
      · cases hr
    | goto off0 =>
      dsimp only [zstp] at hr
      obtain ⟨i', len, hd, hm⟩ := zck1_dec (fun h => by cases h) (fun h => by cases h) hk1
      dsimp only [zmat] at hm
      split at hm
      · simp only [Bool.and_eq_true, beq_iff_eq] at hm
        obtain ⟨hg, rfl⟩ := hm
        exact o_goto hx hb hd (zgo_ok hg) hV (fun stC2 hV2 => kj _ _ _ _ _ hr hL hV2)
      · cases hm
    | ifCond cd off0 =>
      dsimp only [zstp] at hr
      split at hr
      · rename_i a st2
        obtain ⟨i', len, hd, hm⟩ := zck1_dec (fun h => by cases h) (fun h => by cases h) hk1
        dsimp only [zmat] at hm
        split at hm
        · simp only [Bool.and_eq_true, decide_eq_true_eq, beq_iff_eq] at hm
          obtain ⟨⟨⟨rfl, hg⟩, rfl⟩, hn⟩ := hm
          refine o_ifCond hx hb hd (zgo_ok hg) hV (fun hcd stC2 hV2 => ?_) (fun hcd stC2 hV2 => ?_)
          · rw [if_pos hcd] at hr
            exact kj _ _ _ _ _ hr hL hV2
          · rw [if_neg hcd] at hr
            exact kr _ hn _ _ _ _ hr hL hV2
        · cases hm
      · cases hr
    | if_icmp cd off0 =>
      dsimp only [zstp] at hr
      split at hr
      · rename_i b a st2
        obtain ⟨i', len, hd, hm⟩ := zck1_dec (fun h => by cases h) (fun h => by cases h) hk1
        dsimp only [zmat] at hm
        split at hm
        · simp only [Bool.and_eq_true, decide_eq_true_eq, beq_iff_eq] at hm
          obtain ⟨⟨⟨rfl, hg⟩, rfl⟩, hn⟩ := hm
          refine o_icmp hx hb hd (zgo_ok hg) hV (fun hcd stC2 hV2 => ?_) (fun hcd stC2 hV2 => ?_)
          · rw [if_pos hcd] at hr
            exact kj _ _ _ _ _ hr hL hV2
          · rw [if_neg hcd] at hr
            exact kr _ hn _ _ _ _ hr hL hV2
        · cases hm
      · cases hr
    | if_acmp cd off0 =>
      dsimp only [zstp] at hr
      obtain ⟨i', len, hd, hm⟩ := zck1_dec (fun h => by cases h) (fun h => by cases h) hk1
      dsimp only [zmat] at hm
      split at hm
      · simp only [Bool.and_eq_true, decide_eq_true_eq, beq_iff_eq] at hm
        obtain ⟨⟨⟨⟨rfl, hcd⟩, hg⟩, rfl⟩, hn⟩ := hm
        subst hcd
        split at hr
        · rw [if_pos rfl] at hr
          exact o_acmp hx hb hCX hD (Or.inl rfl) hd (zgo_ok hg) hV (fun _ stC2 hV2 => kj _ _ _ _ _ hr hL hV2) (fun h => absurd rfl h)
        · rw [if_pos rfl] at hr
          exact o_acmp hx hb hCX hD (Or.inr ⟨_, rfl⟩) hd (zgo_ok hg) hV (fun h => by cases h) (fun _ stC2 hV2 => kr _ hn _ _ _ _ hr hL hV2)
        · cases hr
      · cases hm
    | tableswitch d0 lo hi offs0 =>
      dsimp only [zstp] at hr
      split at hr
      · rename_i a st2
        obtain ⟨i', len, hd, hm⟩ := zck1_dec (fun h => by cases h) (fun h => by cases h) hk1
        dsimp only [zmat] at hm
        split at hm
        · rename_i d lo' hi' offs
          simp only [Bool.and_eq_true, decide_eq_true_eq] at hm
          obtain ⟨⟨⟨⟨rfl, rfl⟩, hg⟩, h0⟩, ho⟩ := hm
          refine o_switch (tgt := fun j => hdp (zprog y (x.getD (1 + j) 0))) hx hb hd (zgo_ok hg) (fun j hj => ?_) hV (fun hcd stC2 hV2 => ?_) (fun hcd stC2 hV2 => ?_)
          · have h3 := List.all_eq_true.mp ho j (List.mem_range.mpr (by omega))
            split at h3
            · rename_i off hoff
              exact ⟨off, hoff, zgo_ok h3⟩
            · cases h3
          · rw [if_pos hcd] at hr
            exact kj _ _ _ _ _ hr hL hV2
          · rw [if_neg hcd] at hr
            exact kj _ _ _ _ _ hr hL hV2
        · cases hm
      · cases hr
    | getfield i0 =>
      dsimp only [zstp] at hr
      split at hr
      · rename_i a st2
        obtain ⟨v, hv, hr⟩ := Option.bind_eq_some_iff.mp hr
        obtain ⟨i', len, hd, hm⟩ := zck1_dec (fun h => by cases h) (fun h => by cases h) hk1
        dsimp only [zmat] at hm
        split at hm
        · simp only [Bool.and_eq_true, beq_iff_eq] at hm
          obtain ⟨⟨hf, rfl⟩, hn⟩ := hm
          exact o_getfield hx hb hts hown hK hP hH hf hv hd hV (fun stC2 hV2 => kr _ hn _ _ _ _ hr hL hV2)
        · cases hm
      · cases hr
    | putfield i0 =>
      dsimp only [zstp] at hr
      split at hr
      · rename_i v a st2
        split at hr
        · rename_i hk9
          obtain ⟨h2, hw, hr⟩ := Option.bind_eq_some_iff.mp hr
          obtain ⟨i', len, hd, hm⟩ := zck1_dec (fun h => by cases h) (fun h => by cases h) hk1
          dsimp only [zmat] at hm
          split at hm
          · simp only [Bool.and_eq_true, beq_iff_eq, decide_eq_true_eq] at hm
            obtain ⟨⟨⟨hf, hfk⟩, rfl⟩, hn⟩ := hm
            exact o_putfield (x2 := x.getD 2 0) hx hb hts hown hK hP hD hS hH hf (fun h9 => hnm (zinit_lt hy h9)) rfl (zckP1_lst hp1) (fun C T N cv hC hcv => zput_fit hf hfk hC hcv (Or.inl ⟨_, rfl, hk9⟩)) hw hd hV (kh _ hn _ _ hr (zwr_sz (zle_wrF2 hw)).1 (zwr_sz (zle_wrF2 hw)).2)
          · cases hm
        · cases hr
      · rename_i v a st2
        split at hr
        · rename_i hk9
          obtain ⟨h2, hw, hr⟩ := Option.bind_eq_some_iff.mp hr
          obtain ⟨i', len, hd, hm⟩ := zck1_dec (fun h => by cases h) (fun h => by cases h) hk1
          dsimp only [zmat] at hm
          split at hm
          · simp only [Bool.and_eq_true, beq_iff_eq, decide_eq_true_eq] at hm
            obtain ⟨⟨⟨hf, hfk⟩, rfl⟩, hn⟩ := hm
            exact o_putfield (x2 := x.getD 2 0) hx hb hts hown hK hP hD hS hH hf (fun h9 => hnm (zinit_lt hy h9)) rfl (zckP1_lst hp1) (fun C T N cv hC hcv => zput_fit hf hfk hC hcv (Or.inr ⟨Or.inl ⟨_, rfl⟩, hk9⟩)) hw hd hV (kh _ hn _ _ hr (zwr_sz (zle_wrF2 hw)).1 (zwr_sz (zle_wrF2 hw)).2)
          · cases hm
        · cases hr
      · rename_i a st2
        split at hr
        · rename_i hk9
          obtain ⟨h2, hw, hr⟩ := Option.bind_eq_some_iff.mp hr
          obtain ⟨i', len, hd, hm⟩ := zck1_dec (fun h => by cases h) (fun h => by cases h) hk1
          dsimp only [zmat] at hm
          split at hm
          · simp only [Bool.and_eq_true, beq_iff_eq, decide_eq_true_eq] at hm
            obtain ⟨⟨⟨hf, hfk⟩, rfl⟩, hn⟩ := hm
            exact o_putfield (x2 := x.getD 2 0) hx hb hts hown hK hP hD hS hH hf (fun h9 => hnm (zinit_lt hy h9)) rfl (zckP1_lst hp1) (fun C T N cv hC hcv => zput_fit hf hfk hC hcv (Or.inr ⟨Or.inr rfl, hk9⟩)) hw hd hV (kh _ hn _ _ hr (zwr_sz (zle_wrF2 hw)).1 (zwr_sz (zle_wrF2 hw)).2)
          · cases hm
        · cases hr
      · cases hr
    | getstatic i0 =>
      dsimp only [zstp] at hr
      obtain ⟨i', len, hd, hm⟩ := zck1_dec (fun h => by cases h) (fun h => by cases h) hk1
      dsimp only [zmat] at hm
      split at hm
      · simp only [Bool.and_eq_true, beq_iff_eq, decide_eq_true_eq] at hm
        obtain ⟨⟨⟨ho, rfl⟩, rfl⟩, hn⟩ := hm
        exact o_getstatic hx hb hCX (by rw [← ho]; exact hown) hS hd hV (fun stC2 hV2 => kr _ hn _ _ _ _ hr hL hV2)
      · cases hm
    | iaload =>
      dsimp only [zstp] at hr
      split at hr
      · rename_i k a st2
        obtain ⟨v, hv, hr⟩ := Option.bind_eq_some_iff.mp hr
        obtain ⟨i', len, hd, hm⟩ := zck1_dec (fun h => by cases h) (fun h => by cases h) hk1
        dsimp only [zmat] at hm
        simp only [Bool.and_eq_true, decide_eq_true_eq, beq_iff_eq] at hm
        obtain ⟨⟨rfl, rfl⟩, hn⟩ := hm
        exact o_iald hx hb hK hP hH hv hd hV (fun stC2 hV2 => kr _ hn _ _ _ _ hr hL hV2)
      · rename_i k st2
        split at hr
        · rename_i hk9
          obtain ⟨v, hv, hr⟩ := Option.bind_eq_some_iff.mp hr
          obtain ⟨i', len, hd, hm⟩ := zck1_dec (fun h => by cases h) (fun h => by cases h) hk1
          dsimp only [zmat] at hm
          simp only [Bool.and_eq_true, decide_eq_true_eq, beq_iff_eq] at hm
          obtain ⟨⟨rfl, rfl⟩, hn⟩ := hm
          exact o_sld hx hb hCX hS hk9.1 hk9.2 hv hd hV (fun stC2 hV2 => kr _ hn _ _ _ _ hr hL hV2)
        · cases hr
      · cases hr
    | caload =>
      dsimp only [zstp] at hr
      split at hr
      · rename_i k a st2
        obtain ⟨v, hv, hr⟩ := Option.bind_eq_some_iff.mp hr
        obtain ⟨i', len, hd, hm⟩ := zck1_dec (fun h => by cases h) (fun h => by cases h) hk1
        dsimp only [zmat] at hm
        simp only [Bool.and_eq_true, decide_eq_true_eq, beq_iff_eq] at hm
        obtain ⟨⟨rfl, rfl⟩, hn⟩ := hm
        exact o_cald hx hb hK hP hH hv hd hV (fun stC2 hV2 => kr _ hn _ _ _ _ hr hL hV2)
      · cases hr
    | baload =>
      dsimp only [zstp] at hr
      split at hr
      · rename_i k a st2
        obtain ⟨v, hv, hr⟩ := Option.bind_eq_some_iff.mp hr
        obtain ⟨i', len, hd, hm⟩ := zck1_dec (fun h => by cases h) (fun h => by cases h) hk1
        dsimp only [zmat] at hm
        simp only [Bool.and_eq_true, decide_eq_true_eq, beq_iff_eq] at hm
        obtain ⟨⟨rfl, rfl⟩, hn⟩ := hm
        exact o_zald hx hb hK hP hH hv hd hV (fun stC2 hV2 => kr _ hn _ _ _ _ hr hL hV2)
      · cases hr
    | laload =>
      dsimp only [zstp] at hr
      split at hr
      · rename_i k a st2
        obtain ⟨v, hv, hr⟩ := Option.bind_eq_some_iff.mp hr
        obtain ⟨i', len, hd, hm⟩ := zck1_dec (fun h => by cases h) (fun h => by cases h) hk1
        dsimp only [zmat] at hm
        simp only [Bool.and_eq_true, decide_eq_true_eq, beq_iff_eq] at hm
        obtain ⟨⟨rfl, rfl⟩, hn⟩ := hm
        exact o_lald hx hb hK hP hH hv hd hV (fun stC2 hV2 => kr _ hn _ _ _ _ hr hL hV2)
      · cases hr
    | daload =>
      dsimp only [zstp] at hr
      split at hr
      · rename_i k a st2
        obtain ⟨v, hv, hr⟩ := Option.bind_eq_some_iff.mp hr
        obtain ⟨i', len, hd, hm⟩ := zck1_dec (fun h => by cases h) (fun h => by cases h) hk1
        dsimp only [zmat] at hm
        simp only [Bool.and_eq_true, decide_eq_true_eq, beq_iff_eq] at hm
        obtain ⟨⟨rfl, rfl⟩, hn⟩ := hm
        exact o_dald hx hb hK hP hH hv hd hV (fun stC2 hV2 => kr _ hn _ _ _ _ hr hL hV2)
      · cases hr
    | aaload =>
      dsimp only [zstp] at hr
      split at hr
      · rename_i k a st2
        obtain ⟨v, hv, hr⟩ := Option.bind_eq_some_iff.mp hr
        obtain ⟨i', len, hd, hm⟩ := zck1_dec (fun h => by cases h) (fun h => by cases h) hk1
        dsimp only [zmat] at hm
        simp only [Bool.and_eq_true, decide_eq_true_eq, beq_iff_eq] at hm
        obtain ⟨⟨rfl, rfl⟩, hn⟩ := hm
        exact o_aald hx hb hK hP hH hv hd hV (fun stC2 hV2 => kr _ hn _ _ _ _ hr hL hV2)
      · cases hr
    | iastore =>
      dsimp only [zstp] at hr
      split at hr
      · rename_i v k a st2
        obtain ⟨h2, hw, hr⟩ := Option.bind_eq_some_iff.mp hr
        obtain ⟨i', len, hd, hm⟩ := zck1_dec (fun h => by cases h) (fun h => by cases h) hk1
        dsimp only [zmat] at hm
        simp only [Bool.and_eq_true, decide_eq_true_eq, beq_iff_eq] at hm
        obtain ⟨⟨rfl, rfl⟩, hn⟩ := hm
        exact o_iast hx hb hK hP hD hS hH hw hd hV (kh _ hn _ _ hr (zwr_sz (zle_wrI2 hw)).1 (zwr_sz (zle_wrI2 hw)).2)
      · cases hr
    | castore =>
      dsimp only [zstp] at hr
      split at hr
      · rename_i v k a st2
        obtain ⟨h2, hw, hr⟩ := Option.bind_eq_some_iff.mp hr
        obtain ⟨i', len, hd, hm⟩ := zck1_dec (fun h => by cases h) (fun h => by cases h) hk1
        dsimp only [zmat] at hm
        simp only [Bool.and_eq_true, decide_eq_true_eq, beq_iff_eq] at hm
        obtain ⟨⟨rfl, rfl⟩, hn⟩ := hm
        exact o_cast hx hb hK hP hD hS hH hw hd hV (kh _ hn _ _ hr (zwr_sz (zle_wrI2 hw)).1 (zwr_sz (zle_wrI2 hw)).2)
      · cases hr
    | lastore =>
      dsimp only [zstp] at hr
      split at hr
      · rename_i v k a st2
        obtain ⟨h2, hw, hr⟩ := Option.bind_eq_some_iff.mp hr
        obtain ⟨i', len, hd, hm⟩ := zck1_dec (fun h => by cases h) (fun h => by cases h) hk1
        dsimp only [zmat] at hm
        simp only [Bool.and_eq_true, decide_eq_true_eq, beq_iff_eq] at hm
        obtain ⟨⟨rfl, rfl⟩, hn⟩ := hm
        exact o_last hx hb hK hP hD hS hH hw hd hV (kh _ hn _ _ hr (zwr_sz (zle_wrL2 hw)).1 (zwr_sz (zle_wrL2 hw)).2)
      · cases hr
    | dastore =>
      dsimp only [zstp] at hr
      split at hr
      · rename_i v k a st2
        obtain ⟨h2, hw, hr⟩ := Option.bind_eq_some_iff.mp hr
        obtain ⟨i', len, hd, hm⟩ := zck1_dec (fun h => by cases h) (fun h => by cases h) hk1
        dsimp only [zmat] at hm
        simp only [Bool.and_eq_true, decide_eq_true_eq, beq_iff_eq] at hm
        obtain ⟨⟨rfl, rfl⟩, hn⟩ := hm
        exact o_dast hx hb hK hP hD hS hH hw hd hV (kh _ hn _ _ hr (zwr_sz (zle_wrD2 hw)).1 (zwr_sz (zle_wrD2 hw)).2)
      · cases hr
    | bastore =>
      dsimp only [zstp] at hr
      split at hr
      · rename_i v k a st2
        split at hr
        · rename_i h01
          obtain ⟨h2, hw, hr⟩ := Option.bind_eq_some_iff.mp hr
          obtain ⟨i', len, hd, hm⟩ := zck1_dec (fun h => by cases h) (fun h => by cases h) hk1
          dsimp only [zmat] at hm
          simp only [Bool.and_eq_true, decide_eq_true_eq, beq_iff_eq] at hm
          obtain ⟨⟨rfl, rfl⟩, hn⟩ := hm
          exact o_zast hx hb hK hP hD hS hH h01 hw hd hV (kh _ hn _ _ hr (zwr_sz (zle_wrI2 hw)).1 (zwr_sz (zle_wrI2 hw)).2)
        · cases hr
      · cases hr
    | aastore =>
      dsimp only [zstp] at hr
      split at hr
      · rename_i v k a st2
        obtain ⟨h2, hw, hr⟩ := Option.bind_eq_some_iff.mp hr
        obtain ⟨i', len, hd, hm⟩ := zck1_dec (fun h => by cases h) (fun h => by cases h) hk1
        dsimp only [zmat] at hm
        simp only [Bool.and_eq_true, decide_eq_true_eq, beq_iff_eq] at hm
        obtain ⟨⟨rfl, rfl⟩, hn⟩ := hm
        exact o_aast hx hb hts hK hAA hP hD hS hH hw hd hV (kh _ hn _ _ hr (zwr_sz (zle_wrQ2 hw)).1 (zwr_sz (zle_wrQ2 hw)).2)
      · cases hr
    | arraylength =>
      dsimp only [zstp] at hr
      split at hr
      · rename_i a st2
        obtain ⟨v, hv, hr⟩ := Option.bind_eq_some_iff.mp hr
        obtain ⟨i', len, hd, hm⟩ := zck1_dec (fun h => by cases h) (fun h => by cases h) hk1
        dsimp only [zmat] at hm
        simp only [Bool.and_eq_true, decide_eq_true_eq, beq_iff_eq] at hm
        obtain ⟨⟨rfl, rfl⟩, hn⟩ := hm
        exact o_alen hx hb hK hP hH hv hd hV (fun stC2 hV2 => kr _ hn _ _ _ _ hr hL hV2)
      · rename_i st2
        obtain ⟨i', len, hd, hm⟩ := zck1_dec (fun h => by cases h) (fun h => by cases h) hk1
        dsimp only [zmat] at hm
        simp only [Bool.and_eq_true, decide_eq_true_eq, beq_iff_eq] at hm
        obtain ⟨⟨rfl, rfl⟩, hn⟩ := hm
        exact o_slen hx hb hCX hS hd hV (fun stC2 hV2 => kr _ hn _ _ _ _ hr hL hV2)
      · rename_i st2
        obtain ⟨i', len, hd, hm⟩ := zck1_dec (fun h => by cases h) (fun h => by cases h) hk1
        dsimp only [zmat] at hm
        simp only [Bool.and_eq_true, decide_eq_true_eq, beq_iff_eq] at hm
        obtain ⟨⟨rfl, rfl⟩, hn⟩ := hm
        exact o_elen hx hb hCX hS hd hV (fun stC2 hV2 => kr _ hn _ _ _ _ hr hL hV2)
      · cases hr
    | newarray t0 =>
      dsimp only [zstp] at hr
      split at hr
      · rename_i k st2 h9x
        split at hr
        · rename_i hk9
          have hle2 := zrun_le _ _ _ _ _ _ _ hr
          obtain ⟨i', len, hd, hm⟩ := zck1_dec (fun h => by cases h) (fun h => by cases h) hk1
          dsimp only [zmat] at hm
          split at hm
          · simp only [Bool.and_eq_true, beq_iff_eq, decide_eq_true_eq] at hm
            obtain ⟨⟨⟨rfl, ht⟩, rfl⟩, hn⟩ := hm
            obtain ⟨g1, g2⟩ := zapp1 h (zarr (x.getD 0 0) k.toNat)
            rw [zarr_sz ht] at g2
            obtain ⟨g3, g4⟩ := hle2
            exact o_newarray hx hb hts hK hP hD hS hba hH ht hk9.1 hk9.2 (by omega) (by omega) hd hV (kn _ hn _ _ _ _ hr g1 g2)
          · cases hm
        · cases hr
      · cases hr
    | anewarray t0 =>
      dsimp only [zstp] at hr
      split at hr
      · rename_i k st2 h9x
        split at hr
        · rename_i hk9
          have hle2 := zrun_le _ _ _ _ _ _ _ hr
          obtain ⟨i', len, hd, hm⟩ := zck1_dec (fun h => by cases h) (fun h => by cases h) hk1
          dsimp only [zmat] at hm
          split at hm
          · simp only [Bool.and_eq_true, beq_iff_eq, decide_eq_true_eq] at hm
            obtain ⟨⟨⟨hq, ht⟩, rfl⟩, hn⟩ := hm
            obtain ⟨g1, g2⟩ := zapp1 h (cQ (x.getD 0 0) (List.replicate k.toNat none))
            rw [show zszc (cQ (x.getD 0 0) (List.replicate k.toNat none)) = k.toNat by simp [zszc]] at g2
            obtain ⟨g3, g4⟩ := hle2
            exact o_anewarray hx hb hts hown hK hP hD hS hba hH ht hq hk9.1 hk9.2 (by omega) (by omega) hd hV (kn _ hn _ _ _ _ hr g1 g2)
          · cases hm
        · cases hr
      · cases hr
    | checkcast i0 =>
      dsimp only [zstp] at hr
      split at hr
      · rename_i a st2
        split at hr
        · rename_i hz
          obtain ⟨i', len, hd, hm⟩ := zck1_dec (fun h => by cases h) (fun h => by cases h) hk1
          dsimp only [zmat] at hm
          split at hm
          · simp only [Bool.and_eq_true, beq_iff_eq, decide_eq_true_eq] at hm
            obtain ⟨⟨⟨hq, h0⟩, rfl⟩, hn⟩ := hm
            rw [h0] at hq hz
            exact o_checkcast hx hb hts hown hK hP hH hq hz hd hV (fun stC2 hV2 => kr _ hn _ _ _ _ hr hL hV2)
          · cases hm
        · cases hr
      · cases hr
    | multianewarray i0 d0 =>
      dsimp only [zstp] at hr
      obtain ⟨i', len, hd, hm⟩ := zck1_dec (fun h => by cases h) (fun h => by cases h) hk1
      dsimp only [zmat] at hm
      split at hm
      · rename_i idx d'
        simp only [Bool.and_eq_true, beq_iff_eq] at hm
        obtain ⟨⟨⟨hq, hdd⟩, hlen⟩, hn⟩ := hm
        subst hlen
        have zm := zmul_sz h
        split at hr
        · rename_i n1 n2 n3 st2 h9x
          split at hr
          · rename_i h9
            obtain ⟨h91, rfl, rfl, rfl⟩ := h9
            rw [hdd, h91] at hd
            have hle2 := zrun_le _ _ _ _ _ _ _ hr
            have g1 := hle2.1
            have g2 := hle2.2
            exact o_mul3 hx hb hts hown hK hAA hP hD hS hba hH hq (by omega) (by omega) hd hV (fun ws2 H1 locs1 stC2 a2 a3 a4 a5 a6 a7 => by
              have k := kont r ls _ _ lsC stC2 H1 locs1 (cells + 107) (slots + 2914) ws2 hr hkr hpr a3 a4 a5 a6 (hL.mono a2) a7 a2 (by omega) (by omega)
              rw [hn] at k
              exact k)
          · split at hr
            · rename_i h9
              obtain ⟨h91, rfl, rfl⟩ := h9
              rw [hdd, h91] at hd
              have hle2 := zrun_le _ _ _ _ _ _ _ hr
              have g1 := hle2.1
              have g2 := hle2.2
              exact o_mul2 (st := vI n3 :: st2) hx hb hts hown hK hAA hP hD hS hba hH hq (by omega) (by omega) hd hV (fun ws2 H1 locs1 stC2 a2 a3 a4 a5 a6 a7 => by
                have k := kont r ls _ _ lsC stC2 H1 locs1 (cells + 3) (slots + 106) ws2 hr hkr hpr a3 a4 a5 a6 (hL.mono a2) a7 a2 (by omega) (by omega)
                rw [hn] at k
                exact k)
            · cases hr
        · rename_i n1 n2 st2 h9y h9x
          split at hr
          · rename_i h9
            obtain ⟨h91, rfl, rfl⟩ := h9
            rw [hdd, h91] at hd
            have hle2 := zrun_le _ _ _ _ _ _ _ hr
            have g1 := hle2.1
            have g2 := hle2.2
            exact o_mul2 (st := st2) hx hb hts hown hK hAA hP hD hS hba hH hq (by omega) (by omega) hd hV (fun ws2 H1 locs1 stC2 a2 a3 a4 a5 a6 a7 => by
              have k := kont r ls _ _ lsC stC2 H1 locs1 (cells + 3) (slots + 106) ws2 hr hkr hpr a3 a4 a5 a6 (hL.mono a2) a7 a2 (by omega) (by omega)
              rw [hn] at k
              exact k)
          · cases hr
        · cases hr
      · cases hm
    | new i0 =>
      dsimp only [zstp] at hr
      obtain ⟨i', len, hd, hm⟩ := zck1_dec (fun h => by cases h) (fun h => by cases h) hk1
      dsimp only [zmat] at hm
      split at hm
      · rename_i idx
        split at hr
        · rename_i h9
          rw [if_pos h9] at hm
          split at hr
          · cases hr
            have hst0 := zvs_nil hV
            subst hst0
            simp only [Bool.and_eq_true, beq_iff_eq, decide_eq_true_eq] at hm
            obtain ⟨⟨⟨⟨⟨⟨hq, rfl⟩, h8⟩, h14⟩, hnil⟩, d3⟩, hm⟩ := hm
            have g8 : zCn h + 1 ≤ R.cells + zCn h0 := by
              have : zCn (h.1, h.2 + 1) = zCn h + 1 := by simp only [zCn]; omega
              dsimp only at hRc
              omega
            have g9 : zSz h + 6 ≤ R.slots + zSz h0 := by
              have : zSz (h.1, h.2 + 1) = zSz h + 6 := by simp only [zSz]; omega
              dsimp only at hRs
              omega
            split at hm
            · rename_i is hd4
              simp only [Bool.and_eq_true] at hm
              obtain ⟨hstr, hm⟩ := hm
              split at hm
              · rename_i ic hd6
                simp only [Bool.and_eq_true, decide_eq_true_eq] at hm
                exact o_throw hFC (hz9.resolve_right (fun h9 => by obtain ⟨v, h9⟩ := h9; simp at h9)) hP hD hS hH hL hx0 hc hs g8 g9 hd hq h8 h14 hnil d3 hd4 hstr hd6 hm.1 hm.2
              · cases hm
            · rename_i is hd4
              simp only [Bool.and_eq_true] at hm
              obtain ⟨hstr, hm⟩ := hm
              split at hm
              · rename_i ic hd6
                simp only [Bool.and_eq_true, decide_eq_true_eq] at hm
                exact o_throwW hFC (hz9.resolve_right (fun h9 => by obtain ⟨v, h9⟩ := h9; simp at h9)) hP hD hS hH hL hx0 hc hs g8 g9 hd hq h8 h14 hnil d3 hd4 hstr hd6 hm.1 hm.2
              · cases hm
            · cases hm
          · cases hr
        · rename_i h9
          rw [if_neg h9] at hm
          simp only [Bool.and_eq_true, beq_iff_eq, decide_eq_true_eq] at hm
          obtain ⟨⟨⟨hq, h8⟩, rfl⟩, hn⟩ := hm
          have hle2 := zrun_le _ _ _ _ _ _ _ hr
          obtain ⟨g1, g2⟩ := zapp1 h (cO (x.getD 0 0) (zini (zfks (x.getD 0 0))))
          obtain ⟨g3, g4⟩ := hle2
          have g5 : zSz (h.1 ++ [cO (x.getD 0 0) (zini (zfks (x.getD 0 0)))], h.2) = zSz h + (zini (zfks (x.getD 0 0))).length := g2
          exact o_new hx hb hts hown hK hP hD hS hba hH h8 hq (by omega) (by omega) hd hV (kn _ hn _ _ _ _ hr g1 g5)
      · cases hm
    | invokespecial i0 =>
      dsimp only [zstp] at hr
      obtain ⟨i', len, hd, hm⟩ := zck1_dec (fun h => by cases h) (fun h => by cases h) hk1
      dsimp only [zmat] at hm
      split at hm
      · rename_i idx
        simp only [Bool.and_eq_true, beq_iff_eq] at hm
        obtain ⟨⟨rfl, hn⟩, hm⟩ := hm
        split at hr
        · split at hr
          · rename_i a
            have hw : Jvm.Cond.methodLink (zcn (zow y)) idx Lib.objectInit ∈ zW := by
              obtain ⟨w, hw1, hw2⟩ := List.any_eq_true.mp hm
              have hw3 := of_decide_eq_true hw2
              subst hw3
              exact List.mem_filter.mpr ⟨hw1, rfl⟩
            exact o_objInit hx hb hts hown hw (by rw [hml]; exact hL.size) (by omega) (by omega) hd hV (kr _ hn _ _ _ _ hr hL trivial)
          · cases hr
        · rename_i yc k t9
          split at hr
          · rename_i hrcv
            simp only [Bool.and_eq_true, decide_eq_true_eq, Bool.not_eq_true'] at hm
            obtain ⟨⟨⟨⟨⟨⟨⟨m1, m2⟩, m3⟩, m4⟩, m5⟩, m6⟩, m7⟩, m8⟩ := hm
            have hhy : zhh y = [] := of_decide_eq_true hs1
            exact o_invI ih hFC hz9 hK hP hD hS hH hkr hpr hL hV hx0 hc hs hRc hRs hn hrcv hr hd m1 m2 m3 m4 m5 m6 m7 m8 hhy
          · cases hr
        · cases hr
      · cases hm
    | invokestatic i0 =>
      dsimp only [zstp] at hr
      obtain ⟨i', len, hd, hm⟩ := zck1_dec (fun h => by cases h) (fun h => by cases h) hk1
      dsimp only [zmat] at hm
      split at hm
      · rename_i idx
        simp only [Bool.and_eq_true, beq_iff_eq] at hm
        obtain ⟨⟨rfl, hn⟩, hm⟩ := hm
        split at hr
        · split at hr
          · rename_i n0 a0 st2 h9x
            split at hr
            · cases hr
            · rename_i h8
              obtain ⟨ho, hidx⟩ : zow y = 7 ∧ idx = 66 := by simpa using hm
              subst hidx
              obtain ⟨h1, hz, hr⟩ := Option.bind_eq_some_iff.mp hr
              have hle2 := zrun_le _ _ _ _ _ _ _ hr
              have g1 := hle2.1
              have g2 := hle2.2
              have hsz : zCn h1 = zCn h + 1 ∧ zSz h1 = zSz h + n0.toNat := by
                obtain ⟨xs, q1, q2, q3, q4⟩ := zcop_spec hz
                have q5 := zapp1 h (cQ 0 (xs ++ List.replicate (n0.toNat - xs.length) none))
                rw [← q4] at q5
                refine ⟨q5.1, q5.2.trans ?_⟩
                have : zszc (cQ 0 (xs ++ List.replicate (n0.toNat - xs.length) none)) = n0.toNat := by simp [zszc]; omega
                rw [this]
              have hown7 : s.vm.findClass "java/util/ArrayList" = some m.cls := by rw [ho] at hown; exact hown
              exact o_copy hx hb (by rw [hml]; exact hL.size.symm) hown7 hCX hK hP hD hS hH hz (by omega) (by omega) (by omega) (by omega) (Nat.not_lt.mp h8) hd hV (fun ws2 H1 locs1 stC2 a2 a3 a4 a5 a6 a7 => by
                have k := kont r ls _ _ lsC stC2 H1 locs1 (cells + 1) (slots + n0.toNat) ws2 hr hkr hpr a3 a4 a5 a6 (hL.mono a2) a7 a2 (by omega) (by omega)
                rw [hn] at k
                exact k)
          · cases hr
        · rename_i k
          split at hr
          · rename_i b a st2
            split at hr
            · cases hr
            · rename_i h8
              refine o_math hx hb hts hown hm (by rw [hml]; exact hL.size.symm) (by omega) (by omega) ?_ ?_ (Nat.not_lt.mp h8) hd hV (fun stC2 hV2 => kr _ hn _ _ _ _ hr hL hV2)
              · have := hle.1; omega
              · have := hle.2; omega
          · cases hr
        · rename_i yc k hs9 _
          simp only [Bool.and_eq_true, decide_eq_true_eq, Bool.or_eq_true] at hm
          obtain ⟨⟨⟨⟨⟨m1, m2⟩, m3⟩, m4⟩, m5⟩, m6⟩ := hm
          exact o_invS ih hFC hz9 hK hP hD hS hH hkr hpr hL hV hx0 hc hs hRc hRs hn hr hd m1 m2 m3 m4 m5 m6
      · cases hm
    | invokevirtual i0 =>
      dsimp only [zstp] at hr
      split at hr
      · rename_i yc k ci hs9
        split at hr
        · rename_i hrcv
          obtain ⟨i', len, hd, hm⟩ := zck1_dec (fun h => by cases h) (fun h => by cases h) hk1
          dsimp only [zmat] at hm
          split at hm
          · rename_i idx
            simp only [Bool.and_eq_true, beq_iff_eq, decide_eq_true_eq, Bool.not_eq_true'] at hm
            obtain ⟨⟨rfl, hn⟩, ⟨⟨⟨⟨⟨⟨⟨⟨⟨m1, m2⟩, m3⟩, m4⟩, m5⟩, m6⟩, m7⟩, m8⟩, m9⟩, m10⟩⟩ := hm
            exact o_invV ih hFC hz9 hK hP hD hS hH hkr hpr hL hV hx0 hc hs hRc hRs hn hrcv hr hd m1 m2 m3 m4 m5 m6 m8 m7 m9 m10
          · rename_i idx cnt
            simp only [Bool.and_eq_true, beq_iff_eq, decide_eq_true_eq, Bool.not_eq_true'] at hm
            obtain ⟨⟨rfl, hn⟩, ⟨⟨⟨⟨⟨⟨⟨⟨m1, m2⟩, m3⟩, m4⟩, m5⟩, m6⟩, rfl⟩, rfl⟩, m9⟩⟩ := hm
            exact o_invF ih hFC hz9 hK hP hD hS hH hkr hpr hL hV hx0 hc hs hRc hRs hn hrcv hr hd m1 m2 m3 m4 m5 m6 m9
          · cases hm
        · cases hr
      · cases hr
    | lreturn =>
      dsimp only [zstp] at hr
      split at hr
      · rename_i a h9x
        cases hr
        obtain ⟨i', len, hd, hm⟩ := zck1_dec (fun h => by cases h) (fun h => by cases h) hk1
        dsimp only [zmat] at hm
        simp only [Bool.and_eq_true, decide_eq_true_eq, beq_iff_eq] at hm
        obtain ⟨⟨rfl, rfl⟩, hrt⟩ := hm
        obtain ⟨c1, stC1, rfl, h1, hVa⟩ := zvs_cons hV
        have h2 := zvs_nil hVa
        subst h2
        have h1 : c1 = .long (Int64.ofInt a) := h1
        subst h1
        refine vx_ret (W.widen (k := zCn h - zCn h0) (n := zSz h - zSz h0) (by omega) (by omega) ?_)
        exact W.lret hx hb (hret.trans hrt) (fun t ht hW => ⟨_, ws, rfl, ⟨_, rfl, rfl⟩, by rw [ht]; exact hP, hD, hH, hx0, hS.F ht⟩) hS.2.2 hd hlk
      · cases hr
    | freturn =>
      dsimp only [zstp] at hr
      split at hr
      · rename_i a h9x
        cases hr
        obtain ⟨i', len, hd, hm⟩ := zck1_dec (fun h => by cases h) (fun h => by cases h) hk1
        dsimp only [zmat] at hm
        simp only [Bool.and_eq_true, decide_eq_true_eq, beq_iff_eq] at hm
        obtain ⟨⟨rfl, rfl⟩, hrt⟩ := hm
        obtain ⟨c1, stC1, rfl, h1, hVa⟩ := zvs_cons hV
        have h2 := zvs_nil hVa
        subst h2
        have h1 : c1 = .float a := h1
        subst h1
        refine vx_ret (W.widen (k := zCn h - zCn h0) (n := zSz h - zSz h0) (by omega) (by omega) ?_)
        exact W.fret hx hb (hret.trans hrt) (fun t ht hW => ⟨_, ws, rfl, ⟨_, rfl, rfl⟩, by rw [ht]; exact hP, hD, hH, hx0, hS.F ht⟩) hS.2.2 hd hlk
      · cases hr
    | dreturn =>
      dsimp only [zstp] at hr
      split at hr
      · rename_i a h9x
        cases hr
        obtain ⟨i', len, hd, hm⟩ := zck1_dec (fun h => by cases h) (fun h => by cases h) hk1
        dsimp only [zmat] at hm
        simp only [Bool.and_eq_true, decide_eq_true_eq, beq_iff_eq] at hm
        obtain ⟨⟨rfl, rfl⟩, hrt⟩ := hm
        obtain ⟨c1, stC1, rfl, h1, hVa⟩ := zvs_cons hV
        have h2 := zvs_nil hVa
        subst h2
        have h1 : c1 = .double a := h1
        subst h1
        refine vx_ret (W.widen (k := zCn h - zCn h0) (n := zSz h - zSz h0) (by omega) (by omega) ?_)
        exact W.dret hx hb (hret.trans hrt) (fun t ht hW => ⟨_, ws, rfl, ⟨_, rfl, rfl⟩, by rw [ht]; exact hP, hD, hH, hx0, hS.F ht⟩) hS.2.2 hd hlk
      · cases hr
    | ireturn =>
      dsimp only [zstp] at hr
      split at hr
      · rename_i a h9x
        split at hr
        · rename_i h9
          cases hr
          obtain ⟨i', len, hd, hm⟩ := zck1_dec (fun h => by cases h) (fun h => by cases h) hk1
          dsimp only [zmat] at hm
          simp only [Bool.and_eq_true, decide_eq_true_eq, beq_iff_eq] at hm
          obtain ⟨⟨⟨rfl, rfl⟩, hrt⟩, hle9⟩ := hm
          obtain ⟨c1, stC1, rfl, h1, hVa⟩ := zvs_cons hV
          have h2 := zvs_nil hVa
          subst h2
          have h1 : c1 = .int (Int32.ofInt a) := h1
          subst h1
          refine vx_ret (W.widen (k := zCn h - zCn h0) (n := zSz h - zSz h0) (by omega) (by omega) ?_)
          exact W.zret hx hb (hret.trans hrt) (znar_ret3 h9) (fun t ht hW => ⟨_, ws, rfl, ⟨_, rfl, rfl⟩, by rw [ht]; exact hP, hD, hH, hx0, hS.F ht⟩) hS.2.2 hd hlk
        · cases hr
      · cases hr
    | areturn =>
      dsimp only [zstp] at hr
      split at hr
      · rename_i a
        cases hr
        obtain ⟨i', len, hd, hm⟩ := zck1_dec (fun h => by cases h) (fun h => by cases h) hk1
        dsimp only [zmat] at hm
        simp only [Bool.and_eq_true, decide_eq_true_eq, beq_iff_eq] at hm
        obtain ⟨⟨rfl, rfl⟩, hrt⟩ := hm
        obtain ⟨c1, stC1, rfl, h1, hVa⟩ := zvs_cons hV
        have h2 := zvs_nil hVa
        subst h2
        obtain ⟨q, hq, rfl⟩ := id h1
        refine vx_ret (W.widen (k := zCn h - zCn h0) (n := zSz h - zSz h0) (by omega) (by omega) ?_)
        split at hrt
        · rename_i t9 ht9
          exact W.aret hx hb (hret.trans ht9) (Or.inl ⟨_, rfl⟩) (Or.inr ⟨_, rfl⟩) (fun t ht hW => ⟨_, ws, rfl, ⟨_, rfl, h1⟩, by rw [ht]; exact hP, hD, hH, hx0, hS.F ht⟩) hS.2.2 hd hlk
        · rename_i t9 ht9
          exact W.aret hx hb (hret.trans ht9) (Or.inr ⟨_, rfl⟩) (Or.inr ⟨_, rfl⟩) (fun t ht hW => ⟨_, ws, rfl, ⟨_, rfl, h1⟩, by rw [ht]; exact hP, hD, hH, hx0, hS.F ht⟩) hS.2.2 hd hlk
        · cases hrt
      · cases hr
    | return_ =>
      dsimp only [zstp] at hr
      split at hr
      · cases hr
        obtain ⟨i', len, hd, hm⟩ := zck1_dec (fun h => by cases h) (fun h => by cases h) hk1
        dsimp only [zmat] at hm
        simp only [Bool.and_eq_true, decide_eq_true_eq, beq_iff_eq] at hm
        obtain ⟨⟨rfl, rfl⟩, hrt⟩ := hm
        have h2 := zvs_nil hV
        subst h2
        refine vx_ret (W.widen (k := zCn h - zCn h0) (n := zSz h - zSz h0) (by omega) (by omega) ?_)
        exact W.vret hx hb (hret.trans hrt) (fun t ht hW => ⟨none, ws, rfl, rfl, by rw [ht]; exact hP, hD, hH, hx0, hS.F ht⟩) hS.2.2 hd hlk
      · cases hr
    | _ => exact absurd hr (by simp [zstp])
