/-! THE START: the law's frame out of the tables' words; the law's run is the machine's -/
theorem zB_all {K : ZK} {l : Launch} : ∀ n, zBody K l n
  | 0 => by
    intro y p e R s m args below meth c code ls st h h0 res lsC stC H locs cells slots ws ws0 hr
    simp [zrun] at hr
  | n + 1 => zB_step (zB_all n)
theorem sBN {s s' : State} {L : List Loc} {k n : Nat} (h : s.sameButNew s' L k n) (hL : ∀ q ∈ L, s.heap.size ≤ q.base) : s.sameButNew s' [] k n := by
  obtain ⟨h1, h2, h3, h4, h5, h6⟩ := h
  refine ⟨h1, h2, h3, h4, h5, fun a c hc => ?_⟩
  obtain ⟨c', e1, e2, e3, e4⟩ := h6 a c hc
  refine ⟨c', e1, e2, e3, fun i _ => e4 i (fun hm => ?_)⟩
  have h7 := (Array.getElem?_eq_some_iff.mp hc).1
  exact absurd h7 (Nat.not_lt.mpr (hL _ hm))
/-- an array class of the tables -/
theorem wh_arr {s : State} {args : Array Value} {ty : FieldType} (hn : ∀ C, ty ≠ .object C) (h : (Jvm.Cond.arrayClass ty).before args s = true) : ∃ c, s.vm.findClass ("[" ++ ty.toString) = some c ∧ ArrOfT s c ty ∧ va_RA s c ty ∧ ∃ k, s.vm.classes[c]? = some k := by
  obtain ⟨c, k, comp, h1, h2, h3⟩ := Cond.arrayClass_spec (show (Jvm.Cond.arrayClass ty).holds args s none s [] = true from h)
  refine ⟨c, h1, fun n z => ⟨fun k h => (by cases h), k, h2, comp, h3⟩, ?_, k, h2⟩
  cases ty with
  | object C => exact absurd rfl (hn C)
  | _ => exact h1
theorem wh_obj {s : State} {args : Array Value} {C : String} (h : (Jvm.Cond.arrayOver (.object C)).before args s = true) : ∃ c, ArrOfT s c (.object C) ∧ va_RA s c (.object C) := by
  obtain ⟨comp, c, k, h1, h2, h3, h4, h5⟩ := Cond.arrayOver_spec (show (Jvm.Cond.arrayOver (.object C)).holds args s none s [] = true from h)
  exact ⟨c, fun n z => ⟨fun k h => (by cases h), k, h3, comp, h4⟩, ⟨k, comp, h3, h4, h1, h5⟩⟩
theorem wh_aa {s : State} {args : Array Value} {t : FieldType} {c0 : ClassId} (h : (Jvm.Cond.arrayOver (.array t)).before args s = true) (h0 : s.vm.findClass ("[" ++ t.toString) = some c0) : ∃ c, s.vm.findClass ("[" ++ (FieldType.array t).toString) = some c ∧ ArrOfT s c (.array t) ∧ va_RA s c (.array t) ∧ ∃ k, s.vm.classes[c]? = some k ∧ k.kind = .array c0 (.array t) := by
  obtain ⟨comp, c, k, h1, h2, h3, h4, h5⟩ := arrayOverA_spec (show (Jvm.Cond.arrayOver (.array t)).holds args s none s [] = true from h)
  have e : comp = c0 := by
    have e1 : (FieldType.array t).toString = "[" ++ t.toString := rfl
    rw [e1, h0] at h1
    exact (Option.some.inj h1).symm
  subst e
  exact ⟨c, h5, fun n z => ⟨fun k h => (by cases h), k, h3, comp, h4⟩, h5, k, h3, h4⟩
theorem wh_str : ∀ q ∈ zstrL, Jvm.Cond.stringRef q.1 q.2.1 q.2.2 ∈ lw_tbl := by decide +kernel
theorem wh_nc : ∀ q ∈ zncL, Jvm.Cond.not (.castable q.1 q.2) ∈ flatC (Jvm.Cond.and given_1 narrow_1) := by decide +kernel
theorem wh_own : ∀ q ∈ zstrL, q.1 = "Shortsign" := by decide +kernel
theorem wh_g1 : Jvm.Cond.exactly (.static "java/util/ArrayList" "DEFAULTCAPACITY_EMPTY_ELEMENTDATA" "[Ljava/lang/Object;") "[Ljava/lang/Object;" ∈ flatC (Jvm.Cond.and given_1 narrow_1) := by decide +kernel
theorem wh_g2 : Jvm.Cond.arrayOf (.static "java/util/ArrayList" "DEFAULTCAPACITY_EMPTY_ELEMENTDATA" "[Ljava/lang/Object;") (.object "java/lang/Object") ∈ flatC (Jvm.Cond.and given_1 narrow_1) := by decide +kernel
theorem wh_g3 : Jvm.Cond.eq (.length (.static "java/util/ArrayList" "DEFAULTCAPACITY_EMPTY_ELEMENTDATA" "[Ljava/lang/Object;")) (.int 0) ∈ flatC (Jvm.Cond.and given_1 narrow_1) := by decide +kernel
theorem wh_g4 : Jvm.Cond.isRef (.static "java/lang/Throwable" "UNASSIGNED_STACK" "[Ljava/lang/StackTraceElement;") ∈ flatC (Jvm.Cond.and given_1 narrow_1) := by decide +kernel
theorem wh_g5 : Jvm.Cond.isRef (.static "java/lang/Throwable" "SUPPRESSED_SENTINEL" "Ljava/util/List;") ∈ flatC (Jvm.Cond.and given_1 narrow_1) := by decide +kernel
theorem wh_g6 : Jvm.Cond.isRef (.mirror "[Ljava/lang/Object;") ∈ flatC (Jvm.Cond.and given_1 narrow_1) := by decide +kernel
theorem wh_t1 : Jvm.Cond.laysStatic "java/lang/Throwable" "UNASSIGNED_STACK" "[Ljava/lang/StackTraceElement;" ∈ lw_tbl ∧ Jvm.Cond.laysStatic "java/lang/Throwable" "SUPPRESSED_SENTINEL" "Ljava/util/List;" ∈ lw_tbl ∧ Jvm.Cond.laysStatic "java/util/ArrayList" "DEFAULTCAPACITY_EMPTY_ELEMENTDATA" "[Ljava/lang/Object;" ∈ lw_tbl ∧ Jvm.Cond.initialized "java/lang/Throwable" ∈ lw_tbl ∧ Jvm.Cond.initialized "java/util/ArrayList" ∈ lw_tbl := by decide +kernel
theorem wh_295 : zby 295 = code ∧ zrt 295 = ret ∧ zmxl 295 = 9 ∧ zcn (zow 295) = R_law ∧ zdep 295 = zdep 295 ∧ 6 + zdep 295 ≤ 23 ∧ 130 + 80 * zdep 295 ≤ 10964 := ⟨rfl, rfl, rfl, rfl, rfl, by decide, by decide⟩
theorem wh_len {args : Array Value} {first s : State} {o : Option Outcome} {idx : List Nat} {t : Term} {a : Addr} {cell : Cell} (h : (Term.length t).eval args first o idx s = some (.int 0)) (ht : t.eval args first o idx s = some (.ref a)) (hc : s.heap[a]? = some cell) : cell.slots.size = 0 := by
  simp only [Term.eval, Option.bind_eq_bind] at h
  rw [ht] at h
  simp only [Option.bind_some] at h
  cases ha : s.arrayAt? a with
  | none => simp [ha] at h
  | some c2 =>
    obtain ⟨d4, -⟩ := State.arrayAt?_spec ha
    rw [hc] at d4
    cases d4
    simp only [ha, Option.bind_some] at h
    by_cases hs : cell.slots.size < 2 ^ 31
    · rw [if_pos hs] at h
      have h1 : cell.slots.size.toInt32 = 0 := by
        injection h with h
        injection h
      have h2 := (Int32.ofNat_le_ofNat hs (by decide : 0 < 2 ^ 31)).mp (by
        have h3 : Int32.ofNat cell.slots.size = 0 := h1
        rw [h3]
        decide)
      omega
    · rw [if_neg hs] at h
      cases h
theorem whole_start {p : Program} {e : Env} {s : State} {m : MethodId} {below : List Frame} {meth : Method} {c : Code} (l : Launch) (hflags : l.flags = flags0) {b L : Nat} {xs : Nat → Int32} (hL : L ≤ 5120) (C0 : lw_At p s m meth c b L xs) : W p l e room_1 s m #[Value.ref b] below meth c s.heap [] 0 0 (lw_Z below #[Value.ref b] s) (entryFrame m ([Value.ref b] : List Value).toArray 9) := by
  obtain ⟨hx, hb, hr, hml, hown, hts, hX, hbl, hlocks, hgv⟩ := id C0
  have gv := flat_of_before _ hgv
  have hst : l.stackTraces = false := by
    unfold Launch.stackTraces
    rw [hflags]
    decide
  have hz : ∀ w ∈ zW, ∀ a, w.before a s = true := fun w hw a => zgood_mv (List.mem_filter.mp hw).2 (State.WarmedH.refl s) (hts w (List.mem_filter.mp hw).1)
  have hz1 : ∀ w ∈ zW, w.before #[Value.ref b] s = true := fun w hw => hz w hw _
  have kn : ∀ ci : Nat, ∃ (cC : ClassId) (iS : Nat → Nat), ∀ q : vw_C, zcl[ci]? = some q → u_Kn s q.1 q.2.1 q.2.2 cC iS := fun ci => by
    cases h : zcl[ci]? with
    | none => exact ⟨0, fun _ => 0, fun q hq => by cases hq⟩
    | some q =>
      obtain ⟨C, T, N⟩ := q
      have ok := zcl_ok h
      obtain ⟨cC, iS, hk⟩ := u_known hz1 ok.1 (hz1 _ ok.2.2.2.2.1)
      exact ⟨cC, iS, fun q hq => by cases hq; exact hk⟩
  have wA : ∀ t, t < 5 → (Jvm.Cond.arrayClass (newarray.typeOf (zan t))).before #[Value.ref b] s = true := fun t ht => hz1 _ (zany_mem (List.all_eq_true.mp zwords5 t (List.mem_range.mpr ht)))
  obtain ⟨a0, f0, g0, r0, k0, y0⟩ := wh_arr (ty := .int) (fun C h => by cases h) (wA 0 (by omega))
  obtain ⟨a1, f1, g1, r1, k1, y1⟩ := wh_arr (ty := .char) (fun C h => by cases h) (wA 1 (by omega))
  obtain ⟨a2, f2, g2, r2, k2, y2⟩ := wh_arr (ty := .boolean) (fun C h => by cases h) (wA 2 (by omega))
  obtain ⟨a3, f3, g3, r3, k3, y3⟩ := wh_arr (ty := .long) (fun C h => by cases h) (wA 3 (by omega))
  obtain ⟨a4, f4, g4, r4, k4, y4⟩ := wh_arr (ty := .double) (fun C h => by cases h) (wA 4 (by omega))
  obtain ⟨a5, g5, r5⟩ := wh_obj (hz1 _ (zat_mem zwords4.1))
  obtain ⟨a6, f6, g6, r6, k6, y6, v6⟩ := wh_aa (hz1 _ (zany_mem zwords4.2.1)) f0
  obtain ⟨a7, f7, g7, r7, k7, y7, v7⟩ := wh_aa (hz1 _ (zany_mem zwords4.2.2.1)) f3
  obtain ⟨a8, f8, g8, r8, k8, y8, v8⟩ := wh_aa (hz1 _ (zany_mem zwords4.2.2.2)) f7
  obtain ⟨az, cz, cell, kz, e1, e2, e3, e4, e5, e6, e7⟩ := Cond.exactly_spec (show (Jvm.Cond.exactly _ _).holds #[Value.ref b] s none s [] = true from gv _ wh_g1)
  have e8 := Cond.arrayOf_spec (show (Jvm.Cond.arrayOf _ _).holds #[Value.ref b] s none s [] = true from gv _ wh_g2) e1 e3
  have e9 := Cond.eq_int (n := 0) (show (Jvm.Cond.eq _ _).holds #[Value.ref b] s none s [] = true from gv _ wh_g3) rfl
  have az_lt : az < s.heap.size := (Array.getElem?_eq_some_iff.mp e3).1
  have hsz : cell.slots.size = 0 := wh_len e9 e1 e3
  obtain ⟨mi, hmi⟩ := va_Mi.of (gv _ wh_g6)
  obtain ⟨dC, hdC⟩ := Classical.axiomOfChoice kn
  obtain ⟨dI, hdI⟩ := Classical.axiomOfChoice hdC
  have hcur : s.vm.findClass "Shortsign" = some (dC 5) := (hdI 5 _ rfl).2.1
  obtain ⟨K, hKe⟩ : ∃ K : ZK, K = (dC, dI, (fun t => [a0, a1, a2, a3, a4, a5, a6, a7, a8].getD t 0), s.heap.size, b, az, (List.range L).map (fun j => (xs j).toInt)) := ⟨_, rfl⟩
  have hsc : zsc K = (List.range L).map (fun j => (xs j).toInt) := by rw [hKe]
  have hlen : (zsc K).length = L := by rw [hsc]; simp
  have hA : ∀ a : Nat, a < s.heap.size → ¬ zA K a := fun a ha h => by
    have h1 : zba K ≤ a := h
    rw [hKe] at h1
    exact absurd ha (Nat.not_lt.mpr h1)
  have hba : zba K = s.heap.size := by rw [hKe]
  have hK : va_K (zD K) zcl (ztys K) s := by
    refine ⟨fun ci q h => ?_, fun k q h => ?_⟩
    · rw [hKe]
      exact hdI ci q h
    · by_cases hk : k < 9
      · rw [ztys_at K hk] at h
        cases h
        rw [hKe]
        have hc : k = 0 ∨ k = 1 ∨ k = 2 ∨ k = 3 ∨ k = 4 ∨ k = 5 ∨ k = 6 ∨ k = 7 ∨ k = 8 := by omega
        rcases hc with rfl | rfl | rfl | rfl | rfl | rfl | rfl | rfl | rfl
        · exact ⟨g0, r0⟩
        · exact ⟨g1, r1⟩
        · exact ⟨g2, r2⟩
        · exact ⟨g3, r3⟩
        · exact ⟨g4, r4⟩
        · exact ⟨g5, r5⟩
        · exact ⟨g6, r6⟩
        · exact ⟨g7, r7⟩
        · exact ⟨g8, r8⟩
      · have : (ztys K)[k]? = none := List.getElem?_eq_none (by unfold ztys; simp; omega)
        rw [this] at h
        cases h
  have hXs : va_X (zsb K) (zsc K).length (fun j => Int32.ofInt ((zsc K).getD j 0)) s s.heap := by
    obtain ⟨scr, x1, x2, x3, x4, x5⟩ := hX
    refine ⟨scr, by rw [hKe]; exact x1, x2, x3, by rw [hlen]; exact x4, fun j hj => ?_⟩
    rw [hlen] at hj
    rw [x5 j hj]
    have : (zsc K).getD j 0 = (xs j).toInt := by
      rw [hsc]
      simp [hj]
    show some (Value.int (xs j)) = some (Value.int (Int32.ofInt ((zsc K).getD j 0)))
    rw [this, Int32.ofInt_toInt]
  have hCX : zCX K s := by
    refine ⟨hz, fun q hq => va_Nc.of (gv _ (wh_nc q hq)), fun q hq => ?_, vx_Zqof (hts _ wh_t1.1) (hts _ wh_t1.2.2.2.1) (gv _ wh_g4) hA, vx_Zqof (hts _ wh_t1.2.1) (hts _ wh_t1.2.2.2.1) (gv _ wh_g5) hA, ?_, ⟨cell, by rw [hKe]; exact e3, e8.1, hsz⟩, hA _ (by rw [hKe]; exact az_lt), hXs, by rw [hKe]; exact hbl, hA _ (by rw [hKe]; exact hbl), ?_, Nat.le_of_eq hba, ⟨mi, hmi⟩⟩
    · have w := hts _ (wh_str q hq)
      have ho := wh_own q hq
      obtain ⟨_, _, _, sa, _, _, _, _, _, h6⟩ := Cond.stringRef_spec (cur := dC 5) (by rw [ho]; exact hcur) (show (Jvm.Cond.stringRef q.1 q.2.1 q.2.2).holds #[Value.ref b] s none s [] = true from w)
      exact ⟨sa, vk_R.of w h6⟩
    · rw [hKe]
      exact va_Zref (hts _ wh_t1.2.2.1) (hts _ wh_t1.2.2.2.2) e1 (by rw [hKe] at hA; exact hA)
    · intro q hq
      rw [hKe]
      simp only [List.mem_cons, List.not_mem_nil, or_false] at hq
      rcases hq with rfl | rfl | rfl
      · exact ⟨k6, k0, .array .int, y6, v6, rfl, y0⟩
      · exact ⟨k7, k3, .array .long, y7, v7, rfl, y3⟩
      · exact ⟨k8, k7, .array (.array .long), y8, v8, rfl, y7⟩
  have hFC : zFC K l 295 p room_1 s m meth c := ⟨by decide, hx, hb.trans wh_295.1.symm, hr.trans wh_295.2.1.symm, hml.trans wh_295.2.2.1.symm, by rw [wh_295.2.2.2.1]; exact hown, hlocks, fun h => absurd h (by decide), fun h => absurd h (by decide), hCX, wh_295.2.2.2.2.2.1, wh_295.2.2.2.2.2.2, hst⟩
  have hsr : ∀ x ∈ zsc K, -2147483648 ≤ x ∧ x < 2147483648 := fun x hx => by
    rw [hsc] at hx
    obtain ⟨j, _, rfl⟩ := List.mem_map.mp hx
    have h1 := Int32.le_toInt (xs j)
    have h2 := Int32.toInt_lt (xs j)
    omega
  obtain ⟨h', n, hrun, hcn, hsn⟩ := law_run (scr := zsc K) hsr (by rw [hlen]; exact hL)
  have hrep0 : yrep ([], 0) ([], 0) := ⟨rfl, rfl, fun a c h => by simp at h, fun a k fs h => by simp at h⟩
  obtain ⟨N, h1, hr1, hrep⟩ := ysim (scr := zsc K) n _ _ _ _ _ _ _ hrep0 hrun
  have q1 : zCn h1 = zCn h' := (yrep_sz hrep).1
  have q2 : zSz h1 = ySz h' := (yrep_sz hrep).2
  have hP : va_P (zD K) zcl [] s.heap := fun k q h => by simp at h
  have hD : va_D (zA K) [] := ⟨fun i j p q h => by simp at h, fun k q h => by simp at h⟩
  have hH : zHR K [] ([], 0) := ⟨rfl, fun k c h => by simp at h⟩
  have hb0 : zsb K = b := by rw [hKe]
  have z0 : zCn (([], 0) : Hp) = 0 := rfl
  have z1 : zSz (([], 0) : Hp) = 0 := rfl
  have kk := zB_all (K := K) (l := l) N 295 p e room_1 s m #[Value.ref b] below meth c (zprog 295 0) _ [] ([], 0) ([], 0) _ _ [] s.heap [] 0 0 [] [] hr1 (zQ_block (by decide)).1 (zQ_block (by decide)).2 hFC (.inr ⟨_, rfl⟩) hK hP hD va_S.rf hH (zent_ok (cs := [.ref b]) ⟨by rw [← hb0]; rfl, trivial⟩ (by decide)) trivial (zex.rf []) rfl rfl (by rw [z0]; show zCn h1 ≤ 603072 + 0; omega) (by rw [z1]; show zSz h1 ≤ 7219306 + 0; omega)
  rw [lg_entry_eq]
  intro T hT X
  obtain ⟨t, st, o, t1, t2, t3⟩ := kk T hT X
  rcases t3 with ⟨⟨vo, ws2, ho, hro, _⟩, Lx, hF, hfree⟩ | ⟨q, _, E, ce, Lx, ⟨ci, _, hci, _⟩, _⟩
  · obtain ⟨cv, hcv, hv⟩ := hro
    have hv1 : cv = .int 1 := hv
    subst hcv hv1
    refine ⟨t, st, o, t1, t2, ho, lw_closed (d0 := s.drawn) (Drawn.sameBut.refl s.drawn lw_cs) hF.1 hF.2.1 ?_⟩
    refine State.sameButNew.mono (sBN hF.2.2 (fun q hq => ?_)) (by rw [z0]; show zCn h1 - 0 ≤ _; omega) (by rw [z1]; show zSz h1 - 0 ≤ _; omega)
    have := hfree q hq
    show s.heap.size ≤ q.base
    rw [← hba]
    exact this
  · cases hci
