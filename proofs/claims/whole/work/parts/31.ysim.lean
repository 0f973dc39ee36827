/-! the first machine behind the second: what stands in the heap, and the raw operations -/
def yraw (c : AC) : Prop := ∀ k fs, c = .inl (k, fs) → k < 99
/-- the first machine's heap behind the second's -/
def yrep (h2 h : Hp) : Prop := h2.1.length = h.1.length ∧ h2.2 = h.2 ∧ (∀ (a : Nat) (c : AC), h2.1[a]? = some c → yraw c → h.1[a]? = some c) ∧
  (∀ (a k : Nat) (fs : List AV), h2.1[a]? = some (.inl (k, fs)) → 99 ≤ k → (∃ ys : List Int, fs = [] ∧ k = 101 + 2 * ys.length ∧ h.1[a]? = some (cI 0 ys)) ∨
    ∃ xs ys : List Int, k = 100 + 2 * ys.length ∧ fs = xs.map vI ∧ ys.length < 1000000 ∧ xs.length ≤ ys.length ∧ ys.take xs.length = xs ∧ h2.1[a + 1]? = some (rHid ys.length) ∧ h.1[a]? = some (cO 4 [vR (some (a + 1)), vI xs.length]) ∧ h.1[a + 1]? = some (cI 0 ys))
theorem yraw_I (t : Nat) (xs : List Int) : yraw (cI t xs) := fun k fs h => by cases h
theorem yraw_L (xs : List Int) : yraw (cL xs) := fun k fs h => by cases h
theorem yraw_D (xs : List UInt64) : yraw (cD xs) := fun k fs h => by cases h
theorem yraw_Q (t : Nat) (xs : List (Option Nat)) : yraw (cQ t xs) := fun k fs h => by cases h
theorem yraw_O {c : Nat} (fs : List AV) (h : c < 99) : yraw (cO c fs) := fun k fs h => by cases h; assumption
theorem yrep_set {h2 h : Hp} (H : yrep h2 h) {a : Nat} {c0 c1 : AC} (ha : h2.1[a]? = some c0) (r0 : yraw c0) (r1 : yraw c1) : yrep (h2.1.set a c1, h2.2) (h.1.set a c1, h.2) := by
  obtain ⟨e1, e2, e3, e4⟩ := H
  have hl := (List.getElem?_eq_some_iff.mp ha).1
  refine ⟨by simp [e1], e2, fun b c hb hr => ?_, fun b k fs hb hk => ?_⟩
  · by_cases hab : a = b
    · subst hab
      rw [List.getElem?_set_self hl] at hb
      cases hb
      exact List.getElem?_set_self (by omega)
    · rw [List.getElem?_set_ne hab] at hb ⊢
      exact e3 b c hb hr
  · by_cases hab : a = b
    · subst hab
      rw [List.getElem?_set_self hl] at hb
      cases hb
      have := r1 _ _ rfl
      omega
    · rw [List.getElem?_set_ne hab] at hb
      rcases e4 b k fs hb hk with ⟨ys, f1, f2, f3⟩ | ⟨xs, ys, f1, f2, f3, f4, f5, f6, f7, f8⟩
      · exact Or.inl ⟨ys, f1, f2, by dsimp only; rw [List.getElem?_set_ne hab]; exact f3⟩
      · have hab1 : a ≠ b + 1 := fun h9 => by
          subst h9
          rw [f6] at ha
          cases ha
          have := r0 _ _ rfl
          omega
        refine Or.inr ⟨xs, ys, f1, f2, f3, f4, f5, ?_, ?_, ?_⟩
        · dsimp only; rw [List.getElem?_set_ne hab1]; exact f6
        · dsimp only; rw [List.getElem?_set_ne hab]; exact f7
        · dsimp only; rw [List.getElem?_set_ne hab1]; exact f8
theorem yrep_app {h2 h : Hp} (H : yrep h2 h) {l : List AC} (r1 : ∀ c ∈ l, yraw c) : yrep (h2.1 ++ l, h2.2) (h.1 ++ l, h.2) := by
  obtain ⟨e1, e2, e3, e4⟩ := H
  refine ⟨by simp [e1], e2, fun b c hb hr => ?_, fun b k fs hb hk => ?_⟩
  · by_cases hab : b < h2.1.length
    · rw [List.getElem?_append_left hab] at hb
      dsimp only
      rw [List.getElem?_append_left (by omega)]
      exact e3 b c hb hr
    · rw [List.getElem?_append_right (by omega)] at hb
      dsimp only
      rw [List.getElem?_append_right (by omega), ← e1]
      exact hb
  · by_cases hab : b < h2.1.length
    · rw [List.getElem?_append_left hab] at hb
      rcases e4 b k fs hb hk with ⟨ys, f1, f2, f3⟩ | ⟨xs, ys, f1, f2, f3, f4, f5, f6, f7, f8⟩
      · exact Or.inl ⟨ys, f1, f2, by dsimp only; rw [List.getElem?_append_left (by omega)]; exact f3⟩
      · have hl6 := (List.getElem?_eq_some_iff.mp f6).1
        refine Or.inr ⟨xs, ys, f1, f2, f3, f4, f5, ?_, ?_, ?_⟩
        · dsimp only; rw [List.getElem?_append_left (by omega)]; exact f6
        · dsimp only; rw [List.getElem?_append_left (by omega)]; exact f7
        · dsimp only; rw [List.getElem?_append_left (by omega)]; exact f8
    · rw [List.getElem?_append_right (by omega)] at hb
      have := r1 _ (List.mem_of_getElem? hb) _ _ rfl
      omega
theorem yrep_exc {h2 h : Hp} (H : yrep h2 h) (n : Nat) : yrep (h2.1, h2.2 + n) (h.1, h.2 + n) := by
  obtain ⟨e1, e2, e3, e4⟩ := H
  exact ⟨e1, by dsimp only; rw [e2], e3, e4⟩
theorem yrep_at {h2 h : Hp} (H : yrep h2 h) {a : Nat} {c : AC} (ha : h2.1[a]? = some c) (r : yraw c) : h.1[a]? = some c := H.2.2.1 a c ha r
/-- what stands behind a row -/
theorem yrep_row {h2 h : Hp} (H : yrep h2 h) {a cap : Nat} {xs : List Int} (ha : h2.1[a]? = some (rW cap xs)) : ∃ ys : List Int, ys.length = cap ∧ cap < 1000000 ∧ xs.length ≤ cap ∧ ys.take xs.length = xs ∧ h2.1[a + 1]? = some (rHid cap) ∧ h.1[a]? = some (cO 4 [vR (some (a + 1)), vI xs.length]) ∧ h.1[a + 1]? = some (cI 0 ys) := by
  rcases H.2.2.2 a _ _ ha (by omega) with ⟨ys, f1, f2, f3⟩ | ⟨xs', ys, f1, f2, f3, f4, f5, f6, f7, f8⟩
  · omega
  · have e1 : cap = ys.length := by omega
    have e2 : xs = xs' := by
      have := congrArg (List.map gI) f2
      rwa [map_gI, map_gI] at this
    subst e1 e2
    exact ⟨ys, rfl, f3, f4, f5, f6, f7, f8⟩
theorem yrw_some {c : Option AC} {r : Nat × List Int} {h2 h : Hp} (H : yrep h2 h) {a : Nat} (hc : h2.1[a]? = c) (hr : yrw c = some r) : h2.1[a]? = some (rW r.1 r.2) := by
  unfold yrw at hr
  split at hr
  · rename_i k fs
    split at hr
    · rename_i hk
      cases hr
      rcases H.2.2.2 a _ _ hc (by omega) with ⟨ys, f1, f2, f3⟩ | ⟨xs', ys, f1, f2, f3, f4, f5, f6, f7, f8⟩
      · omega
      · subst f1 f2
        rw [hc, map_gI]
        dsimp only
        rw [show (100 + 2 * ys.length - 100) / 2 = ys.length by omega]
        rfl
    · cases hr
  · cases hr
theorem yrep_rset {h2 h : Hp} (H : yrep h2 h) {a cap : Nat} {xs xs' ys' : List Int} (ha : h2.1[a]? = some (rW cap xs)) (l1 : ys'.length = cap) (l2 : xs'.length ≤ cap) (l3 : ys'.take xs'.length = xs') : yrep (h2.1.set a (rW cap xs'), h2.2) ((h.1.set a (cO 4 [vR (some (a + 1)), vI xs'.length])).set (a + 1) (cI 0 ys'), h.2) := by
  obtain ⟨ys, g1, g2, g3, g4, g5, g6, g7⟩ := yrep_row H ha
  obtain ⟨e1, e2, e3, e4⟩ := H
  have hl := (List.getElem?_eq_some_iff.mp ha).1
  have hl1 := (List.getElem?_eq_some_iff.mp g5).1
  refine ⟨by simp [e1], e2, fun b c hb hr => ?_, fun b k fs hb hk => ?_⟩
  · by_cases hab : a = b
    · subst hab
      rw [List.getElem?_set_self hl] at hb
      cases hb
      have := hr _ _ rfl
      omega
    · rw [List.getElem?_set_ne hab] at hb
      by_cases hab1 : a + 1 = b
      · subst hab1
        rw [g5] at hb
        cases hb
        have := hr _ _ rfl
        omega
      · dsimp only
        rw [List.getElem?_set_ne hab1, List.getElem?_set_ne hab]
        exact e3 b c hb hr
  · by_cases hab : a = b
    · subst hab
      rw [List.getElem?_set_self hl] at hb
      cases hb
      refine Or.inr ⟨xs', ys', by omega, rfl, by omega, by omega, l3, ?_, ?_, ?_⟩
      · dsimp only; rw [List.getElem?_set_ne (by omega), l1]; exact g5
      · dsimp only; rw [List.getElem?_set_ne (by omega)]; exact List.getElem?_set_self (by omega)
      · dsimp only; exact List.getElem?_set_self (by simp; omega)
    · rw [List.getElem?_set_ne hab] at hb
      rcases e4 b k fs hb hk with ⟨ys2, f1, f2, f3⟩ | ⟨xs2, ys2, f1, f2, f3, f4, f5, f6, f7, f8⟩
      · by_cases hab1 : a + 1 = b
        · subst hab1
          rw [g5] at hb
          cases hb
          exact Or.inl ⟨ys', f1, by omega, by dsimp only; exact List.getElem?_set_self (by simp; omega)⟩
        · exact Or.inl ⟨ys2, f1, f2, by dsimp only; rw [List.getElem?_set_ne hab1, List.getElem?_set_ne hab]; exact f3⟩
      · have hn : a + 1 ≠ b := fun h9 => by
          subst h9
          rw [g5] at hb
          cases hb
          omega
        have hab1 : a ≠ b + 1 := fun h9 => by
          subst h9
          rw [f6] at ha
          have h10 : (101 + 2 * ys2.length : Nat) = 100 + 2 * cap := (Prod.mk.inj (Sum.inl.inj (Option.some.inj ha))).1
          omega
        refine Or.inr ⟨xs2, ys2, f1, f2, f3, f4, f5, ?_, ?_, ?_⟩
        · dsimp only; rw [List.getElem?_set_ne hab1]; exact f6
        · dsimp only; rw [List.getElem?_set_ne hn, List.getElem?_set_ne hab]; exact f7
        · dsimp only; rw [List.getElem?_set_ne (by omega), List.getElem?_set_ne hab1]; exact f8
def yz (c : AC) : Nat := match c with
  | .inl (k, fs) => if k < 99 then fs.length else if k % 2 = 0 then 2 else (k - 101) / 2
  | c => zszc c
def ySz (h : Hp) : Nat := (h.1.map yz).sum + 6 * h.2
theorem yrep_sz {h2 h : Hp} (H : yrep h2 h) : zCn h = zCn h2 ∧ zSz h = ySz h2 := by
  obtain ⟨e1, e2, e3, e4⟩ := H
  refine ⟨by unfold zCn; omega, ?_⟩
  unfold zSz ySz
  rw [e2]
  have : h.1.map zszc = h2.1.map yz := by
    apply List.ext_getElem?
    intro a
    rw [List.getElem?_map, List.getElem?_map]
    cases hc : h2.1[a]? with
    | none =>
      rw [List.getElem?_eq_none_iff] at hc
      rw [List.getElem?_eq_none_iff.mpr (by omega)]
      rfl
    | some c =>
      by_cases hr : yraw c
      · rw [e3 a c hc hr]
        rcases c with ⟨k, fs⟩ | c
        · have := hr _ _ rfl
          simp [zszc, yz, this]
        · rfl
      · rcases c with ⟨k, fs⟩ | c
        · have hk : 99 ≤ k := by
            refine Nat.le_of_not_lt fun h9 => hr ?_
            intro k' fs' h8
            cases h8
            exact h9
          rcases e4 a k fs hc hk with ⟨ys2, f1, f2, f3⟩ | ⟨xs2, ys2, f1, f2, f3, f4, f5, f6, f7, f8⟩
          · rw [f3]
            simp only [Option.map_some, zszc, yz]
            rw [if_neg (by omega), if_neg (by omega)]
            congr 1
            omega
          · rw [f7]
            simp only [Option.map_some, zszc, yz]
            rw [if_neg (by omega), if_pos (by omega)]
            rfl
        · exact absurd (fun k fs h9 => by cases h9) hr
  rw [this]
section
variable {h2 h : Hp}
theorem rdF_sim (H : yrep h2 h) {a ci k : Nat} {v : AV} (hc : ci < 99) (hr : rdF h2 a ci k = some v) : rdF h a ci k = some v := by
  obtain ⟨fs, h1, h3⟩ := rdF_spec hr
  unfold rdF
  rw [yrep_at H h1 (yraw_O _ hc)]
  simp [h3]
theorem wrF_sim (H : yrep h2 h) {a ci k : Nat} {v : AV} {h2' : Hp} (hc : ci < 99) (hr : wrF h2 a ci k v = some h2') : ∃ h', wrF h a ci k v = some h' ∧ yrep h2' h' := by
  obtain ⟨fs, h1, h3, rfl⟩ := wrF_spec hr
  refine ⟨_, ?_, yrep_set H h1 (yraw_O _ hc) (yraw_O _ hc)⟩
  unfold wrF
  rw [yrep_at H h1 (yraw_O _ hc)]
  simp [h3]
theorem rdI_sim (H : yrep h2 h) {a t : Nat} {i v : Int} (hr : rdI h2 a t i = some v) : rdI h a t i = some v := by
  have hr0 := hr
  obtain ⟨xs, h1, -⟩ := rdI_spec hr
  unfold rdI at hr0 ⊢
  rw [yrep_at H h1 (yraw_I _ _)]
  rw [h1] at hr0
  exact hr0
theorem wrI_sim (H : yrep h2 h) {a t : Nat} {i v : Int} {h2' : Hp} (hr : wrI h2 a t i v = some h2') : ∃ h', wrI h a t i v = some h' ∧ yrep h2' h' := by
  have hr0 := hr
  obtain ⟨xs, h1, g1, g2, g3, rfl⟩ := wrI_spec hr
  refine ⟨_, ?_, yrep_set H h1 (yraw_I _ _) (yraw_I _ _)⟩
  unfold wrI
  rw [yrep_at H h1 (yraw_I _ _)]
  simp [g1, g2, g3]
theorem rdL_sim (H : yrep h2 h) {a : Nat} {i v : Int} (hr : rdL h2 a i = some v) : rdL h a i = some v := by
  have hr0 := hr
  obtain ⟨xs, h1, -⟩ := rdL_spec hr
  unfold rdL at hr0 ⊢
  rw [yrep_at H h1 (yraw_L _)]
  rw [h1] at hr0
  exact hr0
theorem wrL_sim (H : yrep h2 h) {a : Nat} {i v : Int} {h2' : Hp} (hr : wrL h2 a i v = some h2') : ∃ h', wrL h a i v = some h' ∧ yrep h2' h' := by
  obtain ⟨xs, h1, g1, g2, g3, rfl⟩ := wrL_spec hr
  refine ⟨_, ?_, yrep_set H h1 (yraw_L _) (yraw_L _)⟩
  unfold wrL
  rw [yrep_at H h1 (yraw_L _)]
  simp [g1, g2, g3]
theorem rdD_sim (H : yrep h2 h) {a : Nat} {i : Int} {v : UInt64} (hr : rdD h2 a i = some v) : rdD h a i = some v := by
  have hr0 := hr
  obtain ⟨xs, h1, -⟩ := rdD_spec hr
  unfold rdD at hr0 ⊢
  rw [yrep_at H h1 (yraw_D _)]
  rw [h1] at hr0
  exact hr0
theorem wrD_sim (H : yrep h2 h) {a : Nat} {i : Int} {v : UInt64} {h2' : Hp} (hr : wrD h2 a i v = some h2') : ∃ h', wrD h a i v = some h' ∧ yrep h2' h' := by
  obtain ⟨xs, h1, g1, g2, g3, rfl⟩ := wrD_spec hr
  refine ⟨_, ?_, yrep_set H h1 (yraw_D _) (yraw_D _)⟩
  unfold wrD
  rw [yrep_at H h1 (yraw_D _)]
  simp [g1, g2, g3]
theorem rdQ_sim (H : yrep h2 h) {a : Nat} {i : Int} {v : Option Nat} (hr : rdQ h2 a i = some v) : rdQ h a i = some v := by
  have hr0 := hr
  obtain ⟨t, xs, h1, -⟩ := rdQ_spec hr
  unfold rdQ at hr0 ⊢
  rw [yrep_at H h1 (yraw_Q _ _)]
  rw [h1] at hr0
  exact hr0
theorem zfit_sim (H : yrep h2 h) {t k : Nat} (hf : zfit t h2.1[k]? = true) : zfit t h.1[k]? = true := by
  cases hc : h2.1[k]? with
  | none =>
    rw [hc] at hf
    unfold zfit at hf
    split at hf <;> simp_all
  | some c =>
    have hr : yraw c := by
      intro k' fs' h9
      subst h9
      rw [hc] at hf
      unfold zfit at hf
      split at hf <;> simp_all
    rw [yrep_at H hc hr, ← hc]
    exact hf
theorem wrQ_sim (H : yrep h2 h) {a : Nat} {i : Int} {x : Option Nat} {h2' : Hp} (hr : wrQ h2 a i x = some h2') : ∃ h', wrQ h a i x = some h' ∧ yrep h2' h' := by
  obtain ⟨t, xs, h1, g1, g2, g3, g4, rfl⟩ := wrQ_spec hr
  refine ⟨_, ?_, yrep_set H h1 (yraw_Q _ _) (yraw_Q _ _)⟩
  unfold wrQ
  rw [yrep_at H h1 (yraw_Q _ _)]
  dsimp only
  rw [if_pos ⟨g1, g2, g3, fun k hk => zfit_sim H (g4 k hk)⟩]
theorem zlen_sim (H : yrep h2 h) {a : Nat} {v : Int} (hr : zlen h2 a = some v) : zlen h a = some v := by
  have hr0 := hr
  unfold zlen at hr0
  split at hr0
  · rename_i t xs h1
    unfold zlen; rw [yrep_at H h1 (yraw_I _ _)]; exact hr0
  · rename_i xs h1
    unfold zlen; rw [yrep_at H h1 (yraw_L _)]; exact hr0
  · rename_i xs h1
    unfold zlen; rw [yrep_at H h1 (yraw_D _)]; exact hr0
  · rename_i t xs h1
    unfold zlen; rw [yrep_at H h1 (yraw_Q _ _)]; exact hr0
  · cases hr0
theorem zis_sim (H : yrep h2 h) {a ci : Nat} (hc : ci < 99) (hr : zis h2 a ci = true) : zis h a ci = true := by
  have hr0 := hr
  unfold zis at hr0
  split at hr0
  · rename_i c fs h1
    simp only [beq_iff_eq] at hr0
    subst hr0
    unfold zis; rw [yrep_at H h1 (yraw_O _ hc)]; simp
  · cases hr0
theorem zrcv_sim (H : yrep h2 h) {st : Sk} {n ci : Nat} (hc : ci < 99) (hr : zrcv st h2 n ci = true) : zrcv st h n ci = true := by
  unfold zrcv at hr ⊢
  split at hr
  · exact zis_sim H hc hr
  · cases hr
theorem zcop_sim (H : yrep h2 h) {a : Nat} {n : Int} {h2' : Hp} (hr : zcop h2 a n = some h2') : ∃ h', zcop h a n = some h' ∧ yrep h2' h' := by
  unfold zcop at hr
  split at hr
  · rename_i xs h1
    split at hr
    · rename_i hc
      cases hr
      refine ⟨_, ?_, yrep_app H (fun c hc => by simp at hc; subst hc; exact yraw_Q _ _)⟩
      unfold zcop
      rw [yrep_at H h1 (yraw_Q _ _)]
      exact if_pos hc
    · cases hr
  · cases hr
theorem zmul_sim (H : yrep h2 h) (a b : Nat) (n : Option Nat) : yrep (zmul h2 a b n) (zmul h a b n) := by
  unfold zmul
  rw [H.1]
  cases n with
  | none =>
    refine yrep_app H (fun c hc => ?_)
    simp at hc
    rcases hc with hc | hc
    · subst hc; exact yraw_Q _ _
    · rw [← hc.2]; exact yraw_Q _ _
  | some n =>
    refine yrep_app H (fun c hc => ?_)
    simp at hc
    rcases hc with hc | ⟨i, -, hc | hc⟩
    · subst hc; exact yraw_Q _ _
    · subst hc; exact yraw_Q _ _
    · rw [← hc.2]; exact yraw_L _
theorem zarr_raw (t n : Nat) : yraw (zarr t n) := by
  unfold zarr
  split
  · exact yraw_I _ _
  · exact yraw_I _ _
  · exact yraw_I _ _
  · exact yraw_L _
  · exact yraw_D _
end
