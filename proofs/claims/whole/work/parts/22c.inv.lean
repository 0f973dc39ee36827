/-! calls -/
def zix (y : Nat) : MethodName := ((zifL.find? (fun q => q.1 == y)).map (·.2)).getD (zyn 0)
set_option maxRecDepth 100000 in
theorem zif_all : (zifL.zip zifP).all (fun q => decide (zix q.1.1 = q.1.2) && zat (q.2.getD 0 0) (.declares q.1.2) && zat (q.2.getD 1 0) (.interfaceMethod q.1.2.cls q.1.2.cls q.1.2.name q.1.2.desc) && zat (q.2.getD 2 0) (.publicMethod (zyn q.1.1)) && zat (q.2.getD 3 0) (.unhidden "java/util/ArrayList" q.1.2.name q.1.2.desc) && zat (q.2.getD 4 0) (.castable "java/util/ArrayList" q.1.2.cls) && zat (q.2.getD 5 0) (.selects "java/util/ArrayList" q.1.2 (zyn q.1.1)) &&
    decide (q.1.2.cls ≠ "java/lang/invoke/MethodHandle" ∧ q.1.2.cls ≠ "java/lang/invoke/VarHandle") && decide ((parseMethodDescriptor q.1.2.desc).map (fun d => d.parameters.length) = some (zna q.1.1))) = true := by decide +kernel
set_option maxRecDepth 100000 in
theorem zif_ml : zmlL.all (fun e => e.2.2.2 != 3 || (zifL.zip zifP).any (fun q => q.1.1 == e.2.2.1)) = true := by decide +kernel
set_option maxRecDepth 100000 in
theorem znest_hh : zmlL.all (fun e => e.2.2.2 != 5 || decide (zhh e.2.2.1 = [])) = true := by decide +kernel
theorem zcast_self2 {s : State} {C : String} {cX : ClassId} {args : Array Value} (h : s.vm.findClass C = some cX) : (Cond.castable C C).before args s = true := by
  unfold Cond.before Cond.holds
  simp [Cond.value, h, zasg_self]
theorem zhok_nil {y pc : Nat} : ∀ (t : List (Nat × Nat × Nat × Nat)), zhok y pc t [] = true → ∀ z ∈ t, ¬ (z.1 ≤ pc ∧ pc < z.2.1)
  | [], _, z, hz => by cases hz
  | (s, e, h, ct) :: t, hk, z, hz => by
    unfold zhok at hk
    split at hk
    · cases hk
    · rename_i hn
      rcases List.mem_cons.mp hz with rfl | hz
      · exact hn
      · exact zhok_nil t hk z hz
/-- the handler that takes class e: those ahead don't -/
theorem zhan_at {y pc : Nat} : ∀ (suf pre : List (Nat × Nat × Nat × Nat)) (xs : List Nat) (e L : Nat), (∀ z ∈ pre, ¬ (z.1 ≤ pc ∧ pc < z.2.1) ∨ (z.2.2.2 ≠ 0 ∧ ∃ nm, zclk (zow y) z.2.2.2 nm = true)) → zhok y pc suf xs = true → zhan xs e = some L →
    ∃ pre2 x suf2, pre ++ suf = pre2 ++ x :: suf2 ∧ (∀ z ∈ pre2, ¬ (z.1 ≤ pc ∧ pc < z.2.1) ∨ (z.2.2.2 ≠ 0 ∧ ∃ nm, zclk (zow y) z.2.2.2 nm = true)) ∧ (x.1 ≤ pc ∧ pc < x.2.1) ∧ x.2.2.2 ≠ 0 ∧ zclk (zow y) x.2.2.2 (zcn e) = true ∧ hdp (zprog y L) = x.2.2.1
  | [], pre, xs, e, L, _, hk, hx => by
    unfold zhok at hk
    have := of_decide_eq_true hk
    subst this
    simp [zhan] at hx
  | (s, e', h, ct) :: t, pre, xs, e, L, hp, hk, hx => by
    unfold zhok at hk
    split at hk
    · rename_i hcov
      split at hk
      · rename_i c l x'
        simp only [Bool.and_eq_true, beq_iff_eq, decide_eq_true_eq] at hk
        obtain ⟨⟨⟨h1, h2⟩, h3⟩, h4⟩ := hk
        unfold zhan at hx
        split at hx
        · rename_i hce
          cases hx
          subst hce
          exact ⟨pre, (s, e', h, ct), t, rfl, hp, hcov, h3, h2, h1⟩
        · have := zhan_at t (pre ++ [(s, e', h, ct)]) x' e L (fun z hz => by
            rcases List.mem_append.mp hz with hz | hz
            · exact hp z hz
            · simp at hz
              subst hz
              exact Or.inr ⟨h3, _, h2⟩) h4 hx
          simpa using this
      · cases hk
    · rename_i hcov
      have := zhan_at t (pre ++ [(s, e', h, ct)]) xs e L (fun z hz => by
        rcases List.mem_append.mp hz with hz | hz
        · exact hp z hz
        · simp at hz
          subst hz
          exact Or.inl hcov) hk hx
      simpa using this
theorem zclk_mem {o idx : Nat} {nm : String} (h : zclk o idx nm = true) : (o, idx, nm) ∈ zclL := by
  unfold zclk at h
  obtain ⟨⟨o', idx', n'⟩, he, h2⟩ := List.any_eq_true.mp h
  simp only [Bool.and_eq_true, beq_iff_eq] at h2
  obtain ⟨⟨rfl, rfl⟩, rfl⟩ := h2
  exact he
theorem zhan_nc {y : Nat} (hy : y < 295) {pre2 suf2 : List (Nat × Nat × Nat × Nat)} {x z : Nat × Nat × Nat × Nat} (hs : zhh y = pre2 ++ x :: suf2) (hz : z ∈ pre2) {n1 n2 : String} (h1 : zclk (zow y) z.2.2.2 n1 = true) (h2 : zclk (zow y) x.2.2.2 n2 = true) : (n2, n1) ∈ zncL := by
  obtain ⟨i, hi, hzi⟩ := List.getElem_of_mem hz
  have h3 := List.all_eq_true.mp zhh_apart y (List.mem_range.mpr hy)
  have h4 := List.all_eq_true.mp h3 pre2.length (List.mem_range.mpr (by rw [hs]; simp))
  have h5 := List.all_eq_true.mp h4 i (List.mem_range.mpr hi)
  have h6 := List.all_eq_true.mp h5 _ (zclk_mem h1)
  have h7 := List.all_eq_true.mp h6 _ (zclk_mem h2)
  have e1 : (zhh y).getD i (0, 0, 0, 0) = z := by
    rw [hs, List.getD_eq_getElem?_getD, List.getElem?_append_left hi, List.getElem?_eq_getElem hi, hzi]
    rfl
  have e2 : (zhh y).getD pre2.length (0, 0, 0, 0) = x := by
    rw [hs, List.getD_eq_getElem?_getD, List.getElem?_append_right (Nat.le_refl _), Nat.sub_self]
    rfl
  rw [e1, e2] at h7
  simp only [beq_self_eq_true, Bool.and_self, Bool.not_true, Bool.false_or, List.any_eq_true, Bool.and_eq_true, beq_iff_eq] at h7
  obtain ⟨q, hq, rfl, rfl⟩ := h7
  exact hq
theorem zsplit {α : Type} : ∀ (l : List α) (n : Nat) (c : α), l[n]? = some c → l = l.take n ++ c :: l.drop (n + 1) ∧ l.take (n + 1) = l.take n ++ [c]
  | [], n, c, h => by simp at h
  | a :: l, 0, c, h => by simp at h; subst h; simp
  | a :: l, n + 1, c, h => by
    have := zsplit l n c (by simpa using h)
    simp only [List.take_succ_cons, List.drop_succ_cons, List.cons_append]
    exact ⟨by rw [← this.1], by rw [← this.2]⟩
theorem zbeh_le {K : ZK} {n m : Nat} {r : List AI} {ls : Lc} {st : Sk} {hs : List Nat} {o res : Rs} (h : zbeh zprog (zrun (zsc K) zprog zmxl zfks n) m r ls st hs o = some res) : zle o.2 res.2 := by
  unfold zbeh at h
  split at h
  · exact zrun_le _ _ _ _ _ _ _ h
  · split at h
    · exact zrun_le _ _ _ _ _ _ _ h
    · split at h
      · cases h; exact zle.rf _
      · cases h
section INV
variable {K : ZK} {l : Launch} {n : Nat}
variable {y : Nat} {p : Program} {e : Env} {R : Room} {s : State} {m : MethodId} {args : Array Value} {below : List Frame} {meth : Method} {c : Code} {ls : Lc} {st : Sk} {h h0 : Hp} {res : Rs} {lsC : Array Slot} {stC : List Value} {H : Heap} {locs : List Loc} {cells slots : Nat} {ws ws0 : va_W} {pc : Nat} {r : List AI} {hs : List Nat}
/-- what follows a call: it went on behind it, or was caught, or leaves -/
theorem zafter (ih : zBody K l n) (hFC : zFC K l y p R s m meth c) (hz9 : y < 295 ∨ ∃ v, res.1 = .inl v) (hK : va_K (zD K) zcl (ztys K) s) (hkr : zckB y r = true) (hpr : r.all (zckQ1 y) = true) {len : Nat} (hn : hdp r = pc + len) {rest : List Value} {o : Rs} (hL : zLR K ws ls lsC (zmxl y)) (hV : zvs K ws st rest) (hx0 : zex ws0 ws) (hc : cells + zCn h0 = zCn h) (hsl : slots + zSz h0 = zSz h) (hRc : zCn res.2 ≤ R.cells + zCn h0) (hRs : zSz res.2 ≤ R.slots + zSz h0) (hlo : zle h o.2) (hbeh : zbeh zprog (zrun (zsc K) zprog zmxl zfks n) y r ls st hs o = some res) (hhok : zhok y pc (zhh y) hs = true) :
    (∀ (vo : Option Value) (ws2 : va_W) (H1 : Heap) (locs1 : List Loc), zro K ws2 o.1 vo → va_P (zD K) zcl ws2 H1 → va_D (zA K) ws2 → zHR K ws2 o.2 → zex ws ws2 → va_S (zA K) s.heap H1 locs1 → W p l e R s m args below meth c H1 locs1 (cells + (zCn o.2 - zCn h)) (slots + (zSz o.2 - zSz h)) (vx_MQ below (zQ K ws0 res) (zX K ws0 res) args s (zCn res.2 - zCn h0) (zSz res.2 - zSz h0) (zA K)) (F0 m (pc + len) lsC (vo.toList ++ rest))) ∧
    (∀ (ci : Nat) (ws2 : va_W) (H1 : Heap) (locs1 : List Loc) (q : Addr) (ce : Cell), o.1 = .inr ci → va_P (zD K) zcl ws2 H1 → va_D (zA K) ws2 → zHR K ws2 o.2 → zex ws ws2 → va_S (zA K) s.heap H1 locs1 → H1[q]? = some ce → ce.vm = .none → s.vm.findClass (zcn ci) = some ce.cls → vx_W p l e R s m args below meth c H1 locs1 (cells + (zCn o.2 - zCn h)) (slots + (zSz o.2 - zSz h)) (vx_MQ below (zQ K ws0 res) (zX K ws0 res) args s (zCn res.2 - zCn h0) (zSz res.2 - zSz h0) (zA K)) (F0 m pc lsC rest) q) := by
  obtain ⟨hy, hx, hb, hret, hml, hown, hlk, hnm, htab, hCX, hRf, hRl, hst⟩ := id hFC
  have hts := hCX.1
  have hle2 := zbeh_le hbeh
  have e1 : cells + (zCn o.2 - zCn h) + zCn h0 = zCn o.2 := by have := hlo.1; omega
  have e2 : slots + (zSz o.2 - zSz h) + zSz h0 = zSz o.2 := by have := hlo.2; omega
  refine ⟨fun vo ws2 H1 locs1 hro hP1 hD1 hH1 hx1 hS1 => ?_, fun ci ws2 H1 locs1 q ce hci hP1 hD1 hH1 hx1 hS1 hq hqv hqc => ?_⟩
  · unfold zbeh at hbeh
    cases ho : o.1 with
    | inr ci => rw [ho] at hro; exact hro.elim
    | inl v =>
      rw [ho] at hbeh hro
      rw [← hn]
      refine ih y p e R s m args below meth c r ls _ o.2 h0 res lsC _ H1 locs1 _ _ ws2 ws0 hbeh hkr hpr hFC hz9 hK hP1 hD1 hS1 hH1 (hL.mono hx1) ?_ (hx0.tr hx1) e1 e2 hRc hRs
      cases v with
      | none =>
        have hro : vo = none := hro
        subst hro
        exact hV.mono hx1
      | some v =>
        obtain ⟨c1, rfl, hv⟩ := hro
        exact ⟨hv, hV.mono hx1⟩
  · unfold zbeh at hbeh
    rw [hci] at hbeh
    dsimp only at hbeh
    split at hbeh
    · rename_i L hL9
      have hy5 : y < 295 := by
        rcases Nat.lt_or_ge y 295 with h9 | h9
        · exact h9
        · have h10 : y = 295 := by omega
          subst h10
          have h11 : zhh 295 = [] := rfl
          rw [h11] at hhok
          have h12 : hs = [] := of_decide_eq_true hhok
          rw [h12] at hL9
          cases hL9
      obtain ⟨pre2, x, suf2, hs2, hpass, hcov, hct, hlk2, hhd⟩ := zhan_at (zhh y) [] hs ci L (fun z hz => by cases hz) hhok hL9
      rw [List.nil_append] at hs2
      have hcast : (Cond.castable (zcn ci) (zcn ci)).before args s = true := zcast_self2 hqc
      have hk := ih y p e R s m args below meth c (zprog y L) ls [vM 2] o.2 h0 res lsC [.ref q] H1 locs1 _ _ ws2 ws0 hbeh (zQ_block hy).1 (zQ_block hy).2 hFC hz9 hK hP1 hD1 hS1 hH1 (hL.mono hx1) ⟨⟨q, rfl⟩, trivial⟩ (hx0.tr hx1) e1 e2 hRc hRs
      rw [hhd] at hk
      refine vx_catch (name := zcn ci) (E := zcn ci) hown (tableOf pre2) ⟨x.1, x.2.1, x.2.2.1, x.2.2.2⟩ (tableOf suf2) (by rw [htab hy5, hs2]; simp [tableOf]) (fun z hz => ?_) (by simpa [covers] using hcov) hct (hts _ (zclk_ok hlk2) args) hcast hq hqv hqc hk
      obtain ⟨w, hw, rfl⟩ := List.mem_map.mp hz
      rcases hpass w hw with h9 | ⟨h9, nm, h10⟩
      · left
        simpa [covers] using h9
      · right
        exact ⟨h9, nm, hts _ (zclk_ok h10) args, hCX.2.1 _ (zhan_nc hy5 hs2 hw h10 hlk2)⟩
    · split at hbeh
      · rename_i hs0
        cases hbeh
        subst hs0
        dsimp only at hRc hRs e1 e2 hle2 ⊢
        refine vx_out (E := zcn ci) (fun z hz => ?_) hlk hq hqv hqc (fun t ht hW => ⟨ci, ws2, rfl, rfl, by rw [ht]; exact hP1, hD1, hH1, hx0.tr hx1, hS1.F ht⟩) hS1.2.2 (by omega) (by omega)
        rw [htab (hz9.resolve_right (fun h9 => by obtain ⟨v, h9⟩ := h9; simp at h9))] at hz
        obtain ⟨w, hw, rfl⟩ := List.mem_map.mp hz
        simpa [covers] using zhok_nil _ hhok w hw
      · cases hbeh
end INV
section INV2
variable {K : ZK} {l : Launch} {n : Nat}
variable {y : Nat} {p : Program} {e : Env} {R : Room} {s : State} {m : MethodId} {args : Array Value} {below : List Frame} {meth : Method} {c : Code} {ls : Lc} {st : Sk} {h h0 : Hp} {res : Rs} {lsC : Array Slot} {stC : List Value} {H : Heap} {locs : List Loc} {cells slots : Nat} {ws ws0 : va_W} {pc : Nat} {r : List AI} {hs : List Nat}
theorem zcall5 {mc ms : Nat} {rest st0 : List Value} {res : Rs} {a : Array Value} {Q : State → Prop} (hr : vx_Run5 p l e R s m args below meth c H locs cells slots mc ms (F0 m pc lsC st0) rest (zQ K ws res a) (zX K ws res) (zA K)) (hS : va_S (zA K) s.heap H locs)
    (kk : ∀ (vo : Option Value) (ws2 : va_W) (H1 : Heap) (locs1 : List Loc), zro K ws2 res.1 vo → va_P (zD K) zcl ws2 H1 → va_D (zA K) ws2 → zHR K ws2 res.2 → zex ws ws2 → va_S (zA K) s.heap H1 locs1 → W p l e R s m args below meth c H1 locs1 (cells + mc) (slots + ms) Q (F0 m (pc + 5) lsC (vo.toList ++ rest)))
    (kx : ∀ (ci : Nat) (ws2 : va_W) (H1 : Heap) (locs1 : List Loc) (q : Addr) (ce : Cell), res.1 = .inr ci → va_P (zD K) zcl ws2 H1 → va_D (zA K) ws2 → zHR K ws2 res.2 → zex ws ws2 → va_S (zA K) s.heap H1 locs1 → H1[q]? = some ce → ce.vm = .none → s.vm.findClass (zcn ci) = some ce.cls → vx_W p l e R s m args below meth c H1 locs1 (cells + mc) (slots + ms) Q (F0 m pc lsC rest) q) : W p l e R s m args below meth c H locs cells slots Q (F0 m pc lsC st0) := by
  intro T hT X
  rcases hr T hT X with ⟨v, st₀, t, T', L, h0, X', hL, e1, e2, ⟨vo, ws2, hv, hro, hP, hD, hH, hx, hF⟩, st⟩ | ⟨q, st₀, t, T', L, E, ce, h0, X', hL, e1, e2, ⟨ci, ws2, hci, hE, hP, hD, hH, hx, hF⟩, hce, hcv, hcl, st⟩
  · cases hv
    obtain ⟨k1, k2, k3⟩ := vx_keep h0 e1 hS (fun q _ h => h) (fun q h => h) hL hF
    obtain ⟨t2, a1, b1⟩ := kk v ws2 T'.heap (locs ++ L) hro (by rw [e1]; exact hP) hD hH hx k3 T' rfl X'
    exact ⟨t2, st t2 a1, b1⟩
  · obtain ⟨k1, k2, k3⟩ := vx_keep h0 e1 hS (fun q _ h => h) (fun q h => h) hL hF
    subst hE
    obtain ⟨t2, a1, b1⟩ := kx ci ws2 T'.heap (locs ++ L) q ce hci (by rw [e1]; exact hP) hD hH hx k3 (by rw [e1]; exact hce) hcv hcl T' rfl X'
    exact ⟨t2, st.trans a1, b1⟩
/-- what a call pays -/
theorem zpay (hCX : zCX K s) {yc : Nat} (hy : yc < 295) {R : Room} {y : Nat} (hRf : 6 + zdep y ≤ R.frames) (hRl : 130 + 80 * zdep y ≤ R.locals) (hdep : zdep yc < zdep y) (mc ms : Nat) : (zRm yc mc ms).frames + 1 ≤ R.frames ∧ 8 + (zmxl yc + 11) + (zRm yc mc ms).locals ≤ R.locals ∧ ∀ w ∈ zws yc, ∀ (a' : Array Value) (U : State), s.WarmedH U.vm → w.before a' U = true := by
  have h40 := (zM_ok hy).2.2.2.2.2.2.2.2
  refine ⟨by show 6 + zdep yc + 1 ≤ _; omega, by show 8 + (zmxl yc + 11) + (130 + 80 * zdep yc) ≤ _; omega, fun w hw a' U hW => ?_⟩
  have h1 := zws_all hy w hw
  exact zgood_mv (List.mem_filter.mp h1).2 hW (hCX.1 w h1 #[])
theorem zcw_code {yc : Nat} (hh : zhh yc = []) : Cond.code (zyn yc) (zby yc) (zmxl yc) (zrt yc) ∈ zws yc := by
  unfold zws zcw
  rw [if_pos hh]
  exact List.mem_cons_self
theorem zcallB (hCX : zCX K s) {yc : Nat} (hy : yc < 295) (hh : zhh yc = []) {y : Nat} (hRf : 6 + zdep y ≤ R.frames) (hRl : 130 + 80 * zdep y ≤ R.locals) (hdep : zdep yc < zdep y) (mc ms : Nat) {own : String} {idx : Nat} (hl : Cond.methodLink own idx (zyn yc) ∈ zW) : CallB R s args own idx (zyn yc) (zby yc) (zmxl yc) (zrt yc) (zws yc) (zRm yc mc ms) mc ms (zna yc) := by
  obtain ⟨h1, h2, h3⟩ := zpay hCX hy hRf hRl hdep mc ms
  obtain ⟨m1, m2, m3, m4, m5, m6, m7, m8, m9⟩ := zM_ok hy
  exact ⟨rfl, rfl, h1, h2, h3, zcw_code hh, hCX.1 _ (zws_all hy _ (zcw_code hh)) args, hCX.1 _ m2 args, m5, zM_len hy, hCX.1 _ hl args⟩
/-- the arguments' world at a call -/
theorem zpre (hCX : zCX K s) (hK : va_K (zD K) zcl (ztys K) s) (hP : va_P (zD K) zcl ws H) (hD : va_D (zA K) ws) (hS : va_S (zA K) s.heap H locs) (hH : zHR K ws h) {as : List AV} {cs : List Value} (hV : zvs K ws as cs) : ∀ U : State, U.heap = H → s.WarmedH U.vm → zPc K as ws h cs.toArray U := fun U hU hW =>
  ⟨cs, rfl, hV, by rw [hU]; exact hP, va_K.moved hW.alike hK, hD, hH, hCX.moved hW hU hS⟩
theorem zinv_spec {n m yc k : Nat} {hs : List Nat} {r : List AI} {ls : Lc} {st : Sk} {h : Hp} {res : Rs} (hr : zinv zprog zmxl (zrun (zsc K) zprog zmxl zfks n) m r ls st h yc k hs = some res) : k ≤ st.length ∧ st.length ≤ k + 4 ∧ (zlay (st.take k).reverse).length ≤ zmxl yc ∧ ∃ o, zrun (zsc K) zprog zmxl zfks n yc (zprog yc 0) (zent zmxl yc (st.take k).reverse) [] h = some o ∧ zbeh zprog (zrun (zsc K) zprog zmxl zfks n) m r ls (st.drop k) hs o = some res := by
  unfold zinv at hr
  split at hr
  · rename_i h9
    obtain ⟨o, h1, h2⟩ := Option.bind_eq_some_iff.mp hr
    exact ⟨h9.1, h9.2.1, h9.2.2, o, h1, h2⟩
  · cases hr
theorem zrest {st : Sk} {stC : List Value} {k : Nat} (hV : zvs K ws st stC) (h4 : st.length ≤ k + 4) : ((stC.drop k).map fun v => v.category).sum ≤ 8 := by
  have h1 := (hV.take k).2.catle
  simp only [List.length_drop] at h1
  omega
theorem zrecv {st : Sk} {h : Hp} {k ci : Nat} (hr : zrcv st h (k + 1) ci = true) (hK : va_K (zD K) zcl (ztys K) s) (hP : va_P (zD K) zcl ws H) (hH : zHR K ws h) (hV : zvs K ws st stC) (hci : ci < 8) : ∃ b, stC[k]? = some (.ref b) ∧ ∃ cell : Cell, H[b]? = some cell ∧ cell.vm.isStatics = false ∧ s.vm.findClass (zcn ci) = some cell.cls := by
  unfold zrcv at hr
  rw [Nat.add_sub_cancel] at hr
  split at hr
  · rename_i a ha
    obtain ⟨c1, hc1, hv1⟩ := hV.at k _ ha
    unfold zis at hr
    split at hr
    · rename_i cj fs hc
      have hcj : cj = ci := by simpa using hr
      subst hcj
      obtain ⟨q, vs, hq, -, -⟩ := zobj_at hH hc
      have h2 := zref_at hv1 hq
      subst h2
      obtain ⟨⟨C, T, N⟩, hC⟩ : ∃ r, zcl[cj]? = some r := ⟨zcl[cj]'hci, List.getElem?_eq_getElem hci⟩
      have h3 := va_recv hK hP hC hq
      rw [← (zcl_ok hC).2.2.2.2.2.2.2.1]
      exact ⟨q, hc1, h3⟩
    · cases hr
  · cases hr
-- variable (ih : zBody K l n) (hFC : zFC K l y p R s m meth c) (hz9 : y < 295 ∨ ∃ v, res.1 = .inl v) (hK : va_K (zD K) zcl (ztys K) s) (hP : va_P (zD K) zcl ws H) (hD : va_D (zA K) ws) (hS : va_S (zA K) s.heap H locs) (hH : zHR K ws h) (hkr : zckB y r = true) (hpr : r.all (zckQ1 y) = true) (hL : zLR K ws ls lsC (zmxl y)) (hV : zvs K ws st stC) (hx0 : zex ws0 ws) (hc : cells + zCn h0 = zCn h) (hsl : slots + zSz h0 = zSz h) (hRc : zCn res.2 ≤ R.cells + zCn h0) (hRs : zSz res.2 ≤ R.slots + zSz h0)
theorem o_invV {idx yc k ci : Nat} (ih : zBody K l n) (hFC : zFC K l y p R s m meth c) (hz9 : y < 295 ∨ ∃ v, res.1 = .inl v) (hK : va_K (zD K) zcl (ztys K) s) (hP : va_P (zD K) zcl ws H) (hD : va_D (zA K) ws) (hS : va_S (zA K) s.heap H locs) (hH : zHR K ws h) (hkr : zckB y r = true) (hpr : r.all (zckQ1 y) = true) (hL : zLR K ws ls lsC (zmxl y)) (hV : zvs K ws st stC) (hx0 : zex ws0 ws) (hc : cells + zCn h0 = zCn h) (hsl : slots + zSz h0 = zSz h) (hRc : zCn res.2 ≤ R.cells + zCn h0) (hRs : zSz res.2 ≤ R.slots + zSz h0)
    (hn : hdp r = pc + 3) (hrcv : zrcv st h k ci = true) (hr : zinv zprog zmxl (zrun (zsc K) zprog zmxl zfks n) y r ls st h yc k hs = some res) (hd : decode (zby y) pc = .ok (.invokevirtual idx, 3)) (hml : zml (zow y) idx yc 0 = true) (hk : k = zna yc + 1) (hst : zst yc = false) (hyc : yc < 295) (hdep : zdep yc < zdep y) (hhc : zhh yc = []) (hci : ci < 8) (hcls : (zyn yc).cls = zcn ci) (hhok : zhok y pc (zhh y) hs = true) (hsel : zat (zpl yc).2.2.2 (.selects (zyn yc).cls (zyn yc) (zyn yc)) = true) :
    W p l e R s m args below meth c H locs cells slots (vx_MQ below (zQ K ws0 res) (zX K ws0 res) args s (zCn res.2 - zCn h0) (zSz res.2 - zSz h0) (zA K)) (F0 m pc lsC stC) := by
  obtain ⟨hy, hx, hb, hret, hmx, hown, hlk, hnm, htab, hCX, hRf, hRl, hst0⟩ := id hFC
  have hts := hCX.1
  obtain ⟨k1, k2, k3, o, h1, h2⟩ := zinv_spec hr
  have hlo := zrun_le _ _ _ _ _ _ _ h1
  have hle2 := zbeh_le h2
  subst hk
  obtain ⟨b, hbk, hcell⟩ := zrecv hrcv hK hP hH hV hci
  obtain ⟨g1, g2⟩ := zsplit stC (zna yc) _ hbk
  have hM := zMet_of (ws := ws) ih hst0 hyc k3 h1
  have hcs := (hV.take (zna yc + 1)).1.rev
  rw [g2] at hcs
  simp only [List.reverse_append, List.reverse_cons, List.reverse_nil, List.nil_append, List.cons_append] at hcs
  have hlen : (stC.take (zna yc)).length = zna yc := by rw [List.length_take]; have := hV.len; omega
  have ha := zafter (below := below) (args := args) (e := e) (len := 3) ih hFC hz9 hK hkr hpr hn hL (hV.take (zna yc + 1)).2 hx0 hc hsl hRc hRs hlo h2 hhok
  refine zcall (vx_runV (As := (stC.take (zna yc)).reverse) (rest := stC.drop (zna yc + 1)) (C := (zyn yc).cls) (b := b) ⟨hx, hb, hmx, hown, fun w hw => hts w hw args⟩ hM ⟨zcallB hCX hyc hhc hRf hRl hdep _ _ (by have := zml_ok hml; exact this), hts _ ((zM_ok hyc).2.2.2.1 hst) args, hts _ (zat_mem hsel) args⟩ ⟨zPc_blind _ _ _ _, by rw [hcls]; exact hcell, zpre hCX hK hP hD hS hH hcs⟩ rfl (by rw [List.length_reverse, hlen]) (by show lsC.size = _; exact hL.size) (by show stC = _; rw [List.reverse_reverse]; exact g1) (lv_room (zrest hV k2)) hd ⟨?_, ?_⟩) hS ha.1 ha.2
  · have := hlo.1; have := hle2.1; omega
  · have := hlo.2; have := hle2.2; omega
theorem o_invF {idx cnt yc k : Nat} (ih : zBody K l n) (hFC : zFC K l y p R s m meth c) (hz9 : y < 295 ∨ ∃ v, res.1 = .inl v) (hK : va_K (zD K) zcl (ztys K) s) (hP : va_P (zD K) zcl ws H) (hD : va_D (zA K) ws) (hS : va_S (zA K) s.heap H locs) (hH : zHR K ws h) (hkr : zckB y r = true) (hpr : r.all (zckQ1 y) = true) (hL : zLR K ws ls lsC (zmxl y)) (hV : zvs K ws st stC) (hx0 : zex ws0 ws) (hc : cells + zCn h0 = zCn h) (hsl : slots + zSz h0 = zSz h) (hRc : zCn res.2 ≤ R.cells + zCn h0) (hRs : zSz res.2 ≤ R.slots + zSz h0)
    (hn : hdp r = pc + 5) (hrcv : zrcv st h k 7 = true) (hr : zinv zprog zmxl (zrun (zsc K) zprog zmxl zfks n) y r ls st h yc k [] = some res) (hd : decode (zby y) pc = .ok (.invokeinterface idx cnt, 5)) (hml : zml (zow y) idx yc 3 = true) (hk : k = zna yc + 1) (hst : zst yc = false) (hyc : yc < 295) (hdep : zdep yc < zdep y) (hhc : zhh yc = []) (hhy : zhh y = []) :
    W p l e R s m args below meth c H locs cells slots (vx_MQ below (zQ K ws0 res) (zX K ws0 res) args s (zCn res.2 - zCn h0) (zSz res.2 - zSz h0) (zA K)) (F0 m pc lsC stC) := by
  obtain ⟨hy, hx, hb, hret, hmx, hown, hlk, hnm, htab, hCX, hRf, hRl, hst0⟩ := id hFC
  have hts := hCX.1
  obtain ⟨k1, k2, k3, o, h1, h2⟩ := zinv_spec hr
  have hlo := zrun_le _ _ _ _ _ _ _ h1
  have hle2 := zbeh_le h2
  subst hk
  obtain ⟨b, hbk, hcell⟩ := zrecv hrcv hK hP hH hV (by decide)
  obtain ⟨g1, g2⟩ := zsplit stC (zna yc) _ hbk
  have hM := zMet_of (ws := ws) ih hst0 hyc k3 h1
  have hcs := (hV.take (zna yc + 1)).1.rev
  rw [g2] at hcs
  simp only [List.reverse_append, List.reverse_cons, List.reverse_nil, List.nil_append, List.cons_append] at hcs
  have hlen : (stC.take (zna yc)).length = zna yc := by rw [List.length_take]; have := hV.len; omega
  have ha := zafter (below := below) (args := args) (e := e) (len := 5) (hs := []) ih hFC hz9 hK hkr hpr hn hL (hV.take (zna yc + 1)).2 hx0 hc hsl hRc hRs hlo h2 (by rw [hhy]; rfl)
  -- the interface's words
  have hlk3 := zml_ok hml
  have hml2 := hml
  unfold zml at hml2
  obtain ⟨e9, he9, hq9⟩ := List.any_eq_true.mp hml2
  simp only [Bool.and_eq_true, beq_iff_eq] at hq9
  have hif := List.all_eq_true.mp zif_ml e9 he9
  rw [hq9.2] at hif
  simp only [bne_self_eq_false, Bool.false_or, List.any_eq_true, beq_iff_eq] at hif
  obtain ⟨q9, hq8, hq7⟩ := hif
  have hw := List.all_eq_true.mp zif_all q9 hq8
  simp only [Bool.and_eq_true, decide_eq_true_eq] at hw
  obtain ⟨⟨⟨⟨⟨⟨⟨⟨w0, w1⟩, w2⟩, w3⟩, w4⟩, w5⟩, w6⟩, w7⟩, w8⟩ := hw
  have hyq : q9.1.1 = yc := by rw [hq7, hq9.1.2]
  rw [hyq] at w0 w3 w6 w8
  have hlk4 : Jvm.Cond.methodLink (zcn (zow y)) idx q9.1.2 ∈ zW := by
    have : zmlw (zow y, idx, yc, 3) = .methodLink (zcn (zow y)) idx (zix yc) := rfl
    rw [this, w0] at hlk3
    exact hlk3
  obtain ⟨m1, m2, m3, m4, m5, m6, m7, m8, m9⟩ := zM_ok hyc
  obtain ⟨p1, p2, p3⟩ := zpay hCX hyc hRf hRl hdep (zCn o.2 - zCn h) (zSz o.2 - zSz h)
  have hat : ClassAt s "java/util/ArrayList" (K.1 7) := (hK.1 7 (RJx4a65c, TJx4a65c, 3) rfl).2
  have hCI : va_CI R s args (zcn (zow y)) "java/util/ArrayList" idx q9.1.2 (zyn yc) (zby yc) (zmxl yc) (zrt yc) (zws yc) (zRm yc (zCn o.2 - zCn h) (zSz o.2 - zSz h)) (zCn o.2 - zCn h) (zSz o.2 - zSz h) (zna yc) :=
    ⟨⟨rfl, rfl, p1, p2, p3, zcw_code hhc⟩, hts _ hlk4 args, hts _ (zat_mem w1) args, hts _ (zat_mem w2) args, hts _ (zat_mem w6) args, hts _ (m4 hst) args, hts _ (zat_mem w3) args, hts _ (zat_mem w4) args, hts _ (zat_mem w5) args, hts _ m2 args, hts _ (zws_all hyc _ (zcw_code hhc)) args, w7, fun sig h => by rw [h] at w8; exact (Option.some.inj w8).symm⟩
  refine zcall5 (vx_runF (As := (stC.take (zna yc)).reverse) (rest := stC.drop (zna yc + 1)) (b := b) hat ⟨hx, hb, hmx, hown, fun w hw => hts w hw args⟩ hM hCI ⟨zPc_blind _ _ _ _, hcell, zpre hCX hK hP hD hS hH hcs⟩ rfl (by rw [List.length_reverse, hlen]) (by show lsC.size = _; exact hL.size) (by show stC = _; rw [List.reverse_reverse]; exact g1) (lv_room (zrest hV k2)) hd ⟨?_, ?_⟩) hS ha.1 ha.2
  · have := hlo.1; have := hle2.1; omega
  · have := hlo.2; have := hle2.2; omega
theorem o_invS {idx yc k : Nat} (ih : zBody K l n) (hFC : zFC K l y p R s m meth c) (hz9 : y < 295 ∨ ∃ v, res.1 = .inl v) (hK : va_K (zD K) zcl (ztys K) s) (hP : va_P (zD K) zcl ws H) (hD : va_D (zA K) ws) (hS : va_S (zA K) s.heap H locs) (hH : zHR K ws h) (hkr : zckB y r = true) (hpr : r.all (zckQ1 y) = true) (hL : zLR K ws ls lsC (zmxl y)) (hV : zvs K ws st stC) (hx0 : zex ws0 ws) (hc : cells + zCn h0 = zCn h) (hsl : slots + zSz h0 = zSz h) (hRc : zCn res.2 ≤ R.cells + zCn h0) (hRs : zSz res.2 ≤ R.slots + zSz h0)
    (hn : hdp r = pc + 3) (hr : zinv zprog zmxl (zrun (zsc K) zprog zmxl zfks n) y r ls st h yc k hs = some res) (hd : decode (zby y) pc = .ok (.invokestatic idx, 3)) (hml : zml (zow y) idx yc 1 = true ∨ zml (zow y) idx yc 5 = true) (hk : k = zna yc) (hst : zst yc = true) (hyc : yc < 295) (hdep : zdep yc < zdep y) (hhok : zhok y pc (zhh y) hs = true) :
    W p l e R s m args below meth c H locs cells slots (vx_MQ below (zQ K ws0 res) (zX K ws0 res) args s (zCn res.2 - zCn h0) (zSz res.2 - zSz h0) (zA K)) (F0 m pc lsC stC) := by
  obtain ⟨hy, hx, hb, hret, hmx, hown, hlk, hnm, htab, hCX, hRf, hRl, hst0⟩ := id hFC
  have hts := hCX.1
  obtain ⟨k1, k2, k3, o, h1, h2⟩ := zinv_spec hr
  have hlo := zrun_le _ _ _ _ _ _ _ h1
  have hle2 := zbeh_le h2
  subst hk
  have hM := zMet_of (ws := ws) ih hst0 hyc k3 h1
  have hcs := (hV.take (zna yc)).1.rev
  have hlen : (stC.take (zna yc)).length = zna yc := by rw [List.length_take]; have := hV.len; omega
  have ha := zafter (below := below) (args := args) (e := e) (len := 3) ih hFC hz9 hK hkr hpr hn hL (hV.take (zna yc)).2 hx0 hc hsl hRc hRs hlo h2 hhok
  obtain ⟨m1, m2, m3, m4, m5, m6, m7, m8, m9⟩ := zM_ok hyc
  obtain ⟨p1, p2, p3⟩ := zpay hCX hyc hRf hRl hdep (zCn o.2 - zCn h) (zSz o.2 - zSz h)
  have g1 : stC = ((stC.take (zna yc)).reverse).reverse ++ stC.drop (zna yc) := by rw [List.reverse_reverse, List.take_append_drop]
  have hrun : vx_Run p l e R s m args below meth c H locs cells slots (zCn o.2 - zCn h) (zSz o.2 - zSz h) (F0 m pc lsC stC) (stC.drop (zna yc)) (zQ K ws o (stC.take (zna yc)).reverse.toArray) (zX K ws o) (zA K) := by
    have q1 : cells + (zCn o.2 - zCn h) ≤ R.cells ∧ slots + (zSz o.2 - zSz h) ≤ R.slots := by
      refine ⟨?_, ?_⟩
      · have := hlo.1; have := hle2.1; omega
      · have := hlo.2; have := hle2.2; omega
    have hpr' : PreS s H (zPc K (st.take (zna yc)).reverse ws h) (stC.take (zna yc)).reverse := ⟨zPc_blind _ _ _ _, zpre hCX hK hP hD hS hH hcs⟩
    rcases hml with hml | hml
    · by_cases hh : zhh yc = []
      · exact vx_runS (As := (stC.take (zna yc)).reverse) (rest := stC.drop (zna yc)) ⟨hx, hb, hmx, hown, fun w hw => hts w hw args⟩ hM ⟨zcallB hCX hyc hh hRf hRl hdep _ _ (by have := zml_ok hml; exact this), hts _ (m3 hst) args⟩ hpr' rfl (by rw [List.length_reverse, hlen]) (by show lsC.size = _; exact hL.size) g1 (lv_room (zrest hV k2)) hd q1
      · have hcw : Cond.codeWith (zyn yc) (zby yc) (zmxl yc) (zrt yc) (zhh yc) ∈ zws yc := by
          unfold zws zcw
          rw [if_neg hh]
          exact List.mem_cons_self
        exact vx_runSX (hh := zhh yc) (bytes := zby yc) (maxL := zmxl yc) (ret := zrt yc) (ws := zws yc) (rm := zRm yc (zCn o.2 - zCn h) (zSz o.2 - zSz h)) (As := (stC.take (zna yc)).reverse) (rest := stC.drop (zna yc)) (own := zcn (zow y)) (n := zna yc) (index := idx) ⟨hx, hb, hmx, hown, fun w hw => hts w hw args⟩ hM ⟨⟨rfl, rfl, p1, p2, p3, hcw⟩, hts _ (zws_all hyc _ hcw) args, hts _ m2 args, m5, zM_len hyc, hts _ (by have := zml_ok hml; exact this) args, hts _ (m3 hst) args⟩ hpr' rfl (by rw [List.length_reverse, hlen]) (by show lsC.size = _; exact hL.size) g1 (lv_room (zrest hV k2)) hd q1
    · have hh : zhh yc = [] := by
        have hml2 := hml
        unfold zml at hml2
        obtain ⟨e9, he9, hq9⟩ := List.any_eq_true.mp hml2
        simp only [Bool.and_eq_true, beq_iff_eq] at hq9
        have h9 := List.all_eq_true.mp znest_hh e9 he9
        rw [hq9.2, hq9.1.2] at h9
        simpa using h9
      have hlk5 : Jvm.Cond.methodLinkNest (zcn (zow y)) idx (zyn yc) "Shortsign" ∈ zW := zml_ok hml
      exact vx_runSN (host := "Shortsign") (As := (stC.take (zna yc)).reverse) (rest := stC.drop (zna yc)) ⟨hx, hb, hmx, hown, fun w hw => hts w hw args⟩ hM ⟨⟨⟨rfl, rfl, p1, p2, p3, zcw_code hh⟩, hts _ (zws_all hyc _ (zcw_code hh)) args, hts _ m2 args, m5, zM_len hyc, hts _ hlk5 args⟩, hts _ (m3 hst) args, trivial⟩ hpr' rfl (by rw [List.length_reverse, hlen]) (by show lsC.size = _; exact hL.size) g1 (lv_room (zrest hV k2)) hd q1
  exact zcall hrun hS ha.1 ha.2
theorem zref_spec {st : Sk} {k : Nat} (hr : zref st (k + 1) = true) (hV : zvs K ws st stC) : ∃ b, stC[k]? = some (.ref b) := by
  unfold zref at hr
  rw [Nat.add_sub_cancel] at hr
  split at hr
  · rename_i a ha
    obtain ⟨c1, hc1, q, -, rfl⟩ := hV.at k _ ha
    exact ⟨_, hc1⟩
  · cases hr
theorem o_invI {idx yc k : Nat} (ih : zBody K l n) (hFC : zFC K l y p R s m meth c) (hz9 : y < 295 ∨ ∃ v, res.1 = .inl v) (hK : va_K (zD K) zcl (ztys K) s) (hP : va_P (zD K) zcl ws H) (hD : va_D (zA K) ws) (hS : va_S (zA K) s.heap H locs) (hH : zHR K ws h) (hkr : zckB y r = true) (hpr : r.all (zckQ1 y) = true) (hL : zLR K ws ls lsC (zmxl y)) (hV : zvs K ws st stC) (hx0 : zex ws0 ws) (hc : cells + zCn h0 = zCn h) (hsl : slots + zSz h0 = zSz h) (hRc : zCn res.2 ≤ R.cells + zCn h0) (hRs : zSz res.2 ≤ R.slots + zSz h0)
    (hn : hdp r = pc + 3) (hrcv : zref st k = true) (hr : zinv zprog zmxl (zrun (zsc K) zprog zmxl zfks n) y r ls st h yc k [] = some res) (hd : decode (zby y) pc = .ok (.invokespecial idx, 3)) (hml : zml (zow y) idx yc 2 = true) (hk : k = zna yc + 1) (hst : zst yc = false) (hyc : yc < 295) (hdep : zdep yc < zdep y) (hhc : zhh yc = []) (hrt : zrt yc = none) (hin : (zyn yc).name = "<init>") (hhy : zhh y = []) :
    W p l e R s m args below meth c H locs cells slots (vx_MQ below (zQ K ws0 res) (zX K ws0 res) args s (zCn res.2 - zCn h0) (zSz res.2 - zSz h0) (zA K)) (F0 m pc lsC stC) := by
  obtain ⟨hy, hx, hb, hret, hmx, hown, hlk, hnm, htab, hCX, hRf, hRl, hst0⟩ := id hFC
  have hts := hCX.1
  obtain ⟨k1, k2, k3, o, h1, h2⟩ := zinv_spec hr
  have hlo := zrun_le _ _ _ _ _ _ _ h1
  have hle2 := zbeh_le h2
  subst hk
  obtain ⟨b, hbk⟩ := zref_spec hrcv hV
  obtain ⟨g1, g2⟩ := zsplit stC (zna yc) _ hbk
  have hM := zMet_of (ws := ws) ih hst0 hyc k3 h1
  have hcs := (hV.take (zna yc + 1)).1.rev
  rw [g2] at hcs
  simp only [List.reverse_append, List.reverse_cons, List.reverse_nil, List.nil_append, List.cons_append] at hcs
  have hlen : (stC.take (zna yc)).length = zna yc := by rw [List.length_take]; have := hV.len; omega
  have ha := zafter (below := below) (args := args) (e := e) (len := 3) (hs := []) ih hFC hz9 hK hkr hpr hn hL (hV.take (zna yc + 1)).2 hx0 hc hsl hRc hRs hlo h2 (by rw [hhy]; rfl)
  have hcb := zcallB (args := args) hCX hyc hhc hRf hRl hdep (zCn o.2 - zCn h) (zSz o.2 - zSz h) (show Cond.methodLink (zcn (zow y)) idx (zyn yc) ∈ zW from zml_ok hml)
  rw [hrt] at hcb
  refine zcall (vx_runI (As := (stC.take (zna yc)).reverse) (rest := stC.drop (zna yc + 1)) (b := b) ⟨hx, hb, hmx, hown, fun w hw => hts w hw args⟩ hM ⟨hcb, hin, hts _ ((zM_ok hyc).2.2.2.1 hst) args⟩ ⟨zPc_blind _ _ _ _, zpre hCX hK hP hD hS hH hcs⟩ rfl (by rw [List.length_reverse, hlen]) (by show lsC.size = _; exact hL.size) (by show stC = _; rw [List.reverse_reverse]; exact g1) (lv_room (zrest hV k2)) hd ⟨?_, ?_⟩) hS ha.1 ha.2
  · have := hlo.1; have := hle2.1; omega
  · have := hlo.2; have := hle2.2; omega
end INV2
