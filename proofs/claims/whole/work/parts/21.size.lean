/-! a run never has fewer cells behind it than ahead -/
def zle (h h' : Hp) : Prop := zCn h ≤ zCn h' ∧ zSz h ≤ zSz h'
theorem zle.rf (h : Hp) : zle h h := ⟨Nat.le_refl _, Nat.le_refl _⟩
theorem zle.tr {a b c : Hp} (h1 : zle a b) (h2 : zle b c) : zle a c := ⟨Nat.le_trans h1.1 h2.1, Nat.le_trans h1.2 h2.2⟩
theorem zsum_set {l : List AC} {a : Nat} {c c' : AC} (h : l[a]? = some c) (he : zszc c' = zszc c) : ((l.set a c').map zszc).sum = (l.map zszc).sum := by
  have e : (l.set a c').map zszc = l.map zszc := by
    apply List.ext_getElem?
    intro i
    rw [List.getElem?_map, List.getElem?_map]
    by_cases hi : a = i
    · subst hi
      rw [List.getElem?_set_self (List.getElem?_eq_some_iff.mp h).1, h]
      simp [he]
    · rw [List.getElem?_set_ne hi]
  rw [e]
theorem zle_set {h : Hp} {a : Nat} {c c' : AC} (hc : h.1[a]? = some c) (he : zszc c' = zszc c) : zle h (h.1.set a c', h.2) := by
  refine ⟨?_, ?_⟩
  · simp [zCn]
  · show _ ≤ _ + 6 * h.2
    rw [zsum_set hc he]
    exact Nat.le_refl _
theorem zle_app (h : Hp) (l : List AC) : zle h (h.1 ++ l, h.2) := by
  refine ⟨by simp [zCn], ?_⟩
  simp only [zSz, List.map_append, List.sum_append]
  omega
theorem zle_exc (h : Hp) : zle h (h.1, h.2 + 1) := ⟨by simp [zCn], by simp only [zSz]; omega⟩
theorem zle_wrF {h h' : Hp} {a ci k : Nat} {v : AV} (hr : wrF h a ci k v = some h') : zle h h' := by
  obtain ⟨fs, hc, hk, rfl⟩ := wrF_spec hr
  exact zle_set hc (by simp [zszc])
theorem zle_wrI {h h' : Hp} {a t : Nat} {i v : Int} (hr : wrI h a t i v = some h') : zle h h' := by
  obtain ⟨xs, hc, -, -, -, rfl⟩ := wrI_spec hr
  exact zle_set hc (by simp [zszc])
theorem zle_wrL {h h' : Hp} {a : Nat} {i v : Int} (hr : wrL h a i v = some h') : zle h h' := by
  obtain ⟨xs, hc, -, -, -, rfl⟩ := wrL_spec hr
  exact zle_set hc (by simp [zszc])
theorem zle_wrD {h h' : Hp} {a : Nat} {i : Int} {v : UInt64} (hr : wrD h a i v = some h') : zle h h' := by
  obtain ⟨xs, hc, -, -, -, rfl⟩ := wrD_spec hr
  exact zle_set hc (by simp [zszc])
theorem zle_wrQ {h h' : Hp} {a : Nat} {i : Int} {v : Option Nat} (hr : wrQ h a i v = some h') : zle h h' := by
  obtain ⟨t, xs, hc, -, -, -, -, rfl⟩ := wrQ_spec hr
  exact zle_set hc (by simp [zszc])
theorem zle_zcop {h h' : Hp} {a : Nat} {n : Int} (hr : zcop h a n = some h') : zle h h' := by
  unfold zcop at hr
  split at hr
  · split at hr
    · cases hr
      exact zle_app h _
    · cases hr
  · cases hr
theorem zle_zmul (h : Hp) (a b : Nat) (n : Option Nat) : zle h (zmul h a b n) := by
  unfold zmul
  cases n with
  | none => exact zle_app h _
  | some n => exact zle_app h _
theorem zle_bind {α : Type} {o : Option α} {f : α → Option Rs} {h : Hp} {res : Rs} (hr : o.bind f = some res) (k : ∀ x, o = some x → f x = some res → zle h res.2) : zle h res.2 := by
  obtain ⟨x, h1, h2⟩ := Option.bind_eq_some_iff.mp hr
  exact k x h1 h2
section
variable {scr : List Int} {prog : Nat → Nat → List AI} {mxl : Nat → Nat} {fks : Nat → List Nat}
theorem zle_zinv {n : Nat} (ih : ∀ m code ls st h res, zrun scr prog mxl fks n m code ls st h = some res → zle h res.2) {m y k : Nat} {r : List AI} {ls : Lc} {st : Sk} {h : Hp} {hs : List Nat} {res : Rs} (hr : zinv prog mxl (zrun scr prog mxl fks n) m r ls st h y k hs = some res) : zle h res.2 := by
  unfold zinv at hr
  split at hr
  · refine zle_bind hr (fun o h1 h2 => ?_)
    have h3 := ih _ _ _ _ _ _ h1
    unfold zbeh at h2
    split at h2
    · exact h3.tr (ih _ _ _ _ _ _ h2)
    · split at h2
      · exact h3.tr (ih _ _ _ _ _ _ h2)
      · split at h2
        · cases h2
          exact h3
        · cases h2
  · cases hr
set_option maxHeartbeats 4000000 in
theorem zrun_le : ∀ (n m : Nat) (code : List AI) (ls : Lc) (st : Sk) (h : Hp) (res : Rs), zrun scr prog mxl fks n m code ls st h = some res → zle h res.2
  | 0, m, code, ls, st, h, res, hr => by simp [zrun] at hr
  | n + 1, m, [], ls, st, h, res, hr => by simp [zrun] at hr
  | n + 1, m, (pc, i, x) :: r, ls, st, h, res, hr => by
    have ih := zrun_le n
    simp only [zrun] at hr
    unfold zstp at hr
    split at hr
    all_goals (repeat' (split at hr))
    all_goals first
      | (cases hr; done)
      | exact ih _ _ _ _ _ _ hr
      | exact zle_zinv ih hr
      | exact zle_bind hr (fun y h1 h2 => ih _ _ _ _ _ _ h2)
      | exact zle_bind hr (fun y h1 h2 => (zle_wrF h1).tr (ih _ _ _ _ _ _ h2))
      | exact zle_bind hr (fun y h1 h2 => (zle_wrI h1).tr (ih _ _ _ _ _ _ h2))
      | exact zle_bind hr (fun y h1 h2 => (zle_wrL h1).tr (ih _ _ _ _ _ _ h2))
      | exact zle_bind hr (fun y h1 h2 => (zle_wrD h1).tr (ih _ _ _ _ _ _ h2))
      | exact zle_bind hr (fun y h1 h2 => (zle_wrQ h1).tr (ih _ _ _ _ _ _ h2))
      | exact zle_bind hr (fun y h1 h2 => (zle_zcop h1).tr (ih _ _ _ _ _ _ h2))
      | exact (zle_app h _).tr (ih _ _ _ _ _ _ hr)
      | exact (zle_zmul h _ _ _).tr (ih _ _ _ _ _ _ hr)
      | (cases hr; exact zle.rf _)
      | (cases hr; exact zle_exc _)
end
