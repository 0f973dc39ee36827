section
variable {scr : List Int} {m pc : Nat} {r : List AI} {ls : Lc} {h2 h : Hp}
theorem zrow_of {a cap : Nat} {xs : List Int} (H : yrep h2 h) (ha : h2.1[a]? = some (rW cap xs)) : ∃ ys : List Int, zrow h a xs.length ys ∧ ys.length = cap ∧ ys.take xs.length = xs := by
  obtain ⟨ys, g1, g2, g3, g4, g5, g6, g7⟩ := yrep_row H ha
  exact ⟨ys, ⟨g6, g7, by omega, by omega⟩, g1, g4⟩
theorem yat_take {xs ys : List Int} {i : Int} (hl : xs.length ≤ ys.length) (ht : ys.take xs.length = xs) : (if 0 ≤ i ∧ i < (xs.length : Int) then ys.getD i.toNat 0 else 0) = yat xs i := by
  unfold yat
  by_cases h0 : 0 ≤ i
  · rw [if_pos h0]
    by_cases h1 : i < (xs.length : Int)
    · rw [if_pos ⟨h0, h1⟩, List.getD_eq_getElem?_getD, List.getD_eq_getElem?_getD]
      have : (ys.take xs.length)[i.toNat]? = xs[i.toNat]? := by rw [ht]
      rw [List.getElem?_take, if_pos (by omega)] at this
      rw [this]
    · rw [if_neg (fun h9 => h1 h9.2), List.getD_eq_getElem?_getD, List.getElem?_eq_none (by omega)]
      rfl
  · rw [if_neg (fun h9 => h0 h9.1), if_neg h0]
theorem yput_take {xs ys : List Int} {k : Nat} {v : Int} (hk : k < xs.length) (ht : ys.take xs.length = xs) : (ys.set k v).take xs.length = xs.set k v := by
  apply List.ext_getElem?
  intro j
  rw [List.getElem?_take]
  have h9 : ∀ j, j < xs.length → ys[j]? = xs[j]? := fun j hj => by
    have : (ys.take xs.length)[j]? = xs[j]? := by rw [ht]
    rwa [List.getElem?_take, if_pos hj] at this
  by_cases hj : j < xs.length
  · rw [if_pos hj]
    by_cases hkj : k = j
    · subst hkj
      have : k < ys.length := by
        have := h9 k hk
        rw [List.getElem?_eq_getElem hk] at this
        exact (List.getElem?_eq_some_iff.mp this).1
      rw [List.getElem?_set_self this, List.getElem?_set_self hk]
    · rw [List.getElem?_set_ne hkj, List.getElem?_set_ne hkj, h9 j hj]
  · rw [if_neg hj, List.getElem?_eq_none (by simp; omega)]
theorem take_of_le {α : Type} {xs ys : List α} {k : Nat} (hk : k ≤ xs.length) (ht : ys.take xs.length = xs) : ys.take k = xs.take k := by
  rw [← ht, List.take_take, Nat.min_eq_left hk]
theorem yrep_rset1 (H : yrep h2 h) {a cap : Nat} {xs xs' ys' : List Int} (ha : h2.1[a]? = some (rW cap xs)) (l1 : ys'.length = cap) (l2 : xs'.length ≤ cap) (l3 : ys'.take xs'.length = xs') {h' : Hp} (he : h' = ((h.1.set a (cO 4 [vR (some (a + 1)), vI xs'.length])).set (a + 1) (cI 0 ys'), h.2)) : yrep (h2.1.set a (rW cap xs'), h2.2) h' := by
  subst he
  exact yrep_rset H ha l1 l2 l3
theorem zrcv_r {a n : Nat} {st : Sk} {f0 f1 : AV} (hg : st[n - 1]? = some (vR (some a))) (h1 : h.1[a]? = some (cO 4 [f0, f1])) : zrcv st h n 4 = true := by
  unfold zrcv
  rw [hg]
  show zis h a 4 = true
  unfold zis
  rw [h1]
  rfl
set_option maxHeartbeats 2000000 in
theorem yprim_sim {i : Instr} {x : List Nat} {st : Sk} {q : Sk × Hp} (H : yrep h2 h) (hq : yprim i x st h2 = some q) : ∃ h', yrep q.2 h' ∧ ∀ P : Rs → Prop, Px scr m r ls q.1 h' P → Px scr m ((pc, i, x) :: r) ls st h P := by
  cases i with
  | getfield i0 =>
    have hq : yGF x st h2 = some q := hq
    unfold yGF at hq
    split at hq
    · rename_i a st' _
      obtain ⟨rr, h1, h3⟩ := Option.map_eq_some_iff.mp hq
      have ha := yrw_some H rfl h1
      obtain ⟨ys, hz, -, -⟩ := zrow_of H ha
      subst h3
      exact ⟨h, H, fun P k => px_getfield (rdF_at hz.1 rfl) k⟩
    · cases hq
  | putfield i0 =>
    have hq : yPF x st h2 = some q := hq
    unfold yPF at hq
    split at hq
    · rename_i v a st' _
      obtain ⟨rr, h1, h3⟩ := Option.bind_eq_some_iff.mp hq
      have ha := yrw_some H rfl h1
      obtain ⟨ys, hz, hl, ht⟩ := zrow_of H ha
      split at h3
      · rename_i hv
        cases h3
        have hlen : (rr.2.take v.toNat).length = v.toNat := by rw [List.length_take]; omega
        refine ⟨(h.1.set a (cO 4 [vR (some (a + 1)), vI v]), h.2), yrep_rset1 H ha hl (by have := hz.2.2.2; omega) ?_ ?_, fun P k => px_putI rfl (wrF_at hz.1 (by show 1 < 2; decide)) k⟩
        · rw [hlen, take_of_le (by omega) ht]
        · rw [hlen, show ((v.toNat : Nat) : Int) = v by omega]
          have : ((h.1.set a (cO 4 [vR (some (a + 1)), vI v])))[a + 1]? = some (cI 0 ys) := by rw [List.getElem?_set_ne (by omega)]; exact hz.2.1
          rw [set_id this]
      · cases h3
    · cases hq
  | invokevirtual i0 =>
    have hq : yIV x st h2 = some q := hq
    unfold yIV at hq
    split at hq
    · rename_i a st' _
      obtain ⟨rr, h1, h3⟩ := Option.bind_eq_some_iff.mp hq
      have ha := yrw_some H rfl h1
      obtain ⟨ys, hz, hl, ht⟩ := zrow_of H ha
      split at h3
      · rename_i hv
        cases h3
        exact ⟨h, H, fun P k => px_callv (o := (.inl (some (vI rr.2.length)), h)) ⟨by simp, by simp; omega, Nat.le_of_ble_eq_true rfl⟩ (zrcv_r rfl hz.1) (k_size hz) rfl k⟩
      · cases h3
    · rename_i ii a st' _
      obtain ⟨rr, h1, h3⟩ := Option.bind_eq_some_iff.mp hq
      have ha := yrw_some H rfl h1
      obtain ⟨ys, hz, hl, ht⟩ := zrow_of H ha
      split at h3
      · rename_i hv
        cases h3
        refine ⟨h, H, fun P k => px_callv (o := (.inl (some (vI (yat rr.2 ii))), h)) ⟨by simp, by simp; omega, Nat.le_of_ble_eq_true rfl⟩ (zrcv_r rfl hz.1) ?_ rfl k⟩
        have := k_at (scr := scr) hz hv.2
        rwa [yat_take hz.2.2.2 ht] at this
      · cases h3
    · rename_i v ii a st' _
      obtain ⟨rr, h1, h3⟩ := Option.bind_eq_some_iff.mp hq
      have ha := yrw_some H rfl h1
      obtain ⟨ys, hz, hl, ht⟩ := zrow_of H ha
      split at h3
      · rename_i hv
        cases h3
        have kp := k_put (scr := scr) (v := v) hz hv.2
        by_cases hin : 0 ≤ ii ∧ ii < (rr.2.length : Int)
        · rw [if_pos hin] at kp
          refine ⟨(h.1.set (a + 1) (cI 0 (ys.set ii.toNat v)), h.2), ?_, fun P k => px_callv (o := (.inl none, _)) ⟨by simp, by simp; omega, Nat.le_of_ble_eq_true rfl⟩ (zrcv_r rfl hz.1) kp rfl k⟩
          have e9 : yput rr.2 ii v = rr.2.set ii.toNat v := if_pos hin.1
          dsimp only
          rw [e9]
          refine yrep_rset1 H ha (by simpa using hl) (by have := hz.2.2.2; simp; omega) ?_ (ys' := ys.set ii.toNat v) ?_
          · rw [List.length_set]; exact yput_take (by omega) ht
          · rw [List.length_set, set_id hz.1]
        · rw [if_neg hin] at kp
          refine ⟨h, ?_, fun P k => px_callv (o := (.inl none, h)) ⟨by simp, by simp; omega, Nat.le_of_ble_eq_true rfl⟩ (zrcv_r rfl hz.1) kp rfl k⟩
          have e9 : yput rr.2 ii v = rr.2 := by
            unfold yput
            split
            · exact List.set_eq_of_length_le (by omega)
            · rfl
          dsimp only
          rw [e9, set_id ha]
          exact H
      · cases h3
    · rename_i v a st' _
      obtain ⟨rr, h1, h3⟩ := Option.bind_eq_some_iff.mp hq
      have ha := yrw_some H rfl h1
      obtain ⟨ys, hz, hl, ht⟩ := zrow_of H ha
      split at h3
      · rename_i hv
        cases h3
        have kp := k_add (scr := scr) (v := v) hz
        by_cases hin : rr.2.length < ys.length
        · rw [if_pos hin] at kp
          refine ⟨_, ?_, fun P k => px_callv (o := (.inl none, _)) ⟨by simp, by simp; omega, Nat.le_of_ble_eq_true rfl⟩ (zrcv_r rfl hz.1) kp rfl k⟩
          have e9 : yadd rr.1 rr.2 v = rr.2 ++ [v] := if_pos (by omega)
          dsimp only
          rw [e9]
          refine yrep_rset1 H ha (by simpa using hl) (by simp; omega) ?_ (ys' := ys.set rr.2.length v) ?_
          · rw [List.length_append, List.length_singleton, List.take_add_one, List.getElem?_set_self hin]
            have : (ys.set rr.2.length v).take rr.2.length = rr.2 := by
              rw [List.take_set_of_le (Nat.le_refl _)]
              exact ht
            rw [this]
            rfl
          · rw [List.length_append, List.length_singleton, List.set_comm _ _ (by omega)]
            rfl
        · rw [if_neg hin] at kp
          refine ⟨h, ?_, fun P k => px_callv (o := (.inl none, h)) ⟨by simp, by simp; omega, Nat.le_of_ble_eq_true rfl⟩ (zrcv_r rfl hz.1) kp rfl k⟩
          have e9 : yadd rr.1 rr.2 v = rr.2 := if_neg (by omega)
          dsimp only
          rw [e9, set_id ha]
          exact H
      · cases h3
    · rename_i v ii a st' _
      obtain ⟨rr, h1, h3⟩ := Option.bind_eq_some_iff.mp hq
      have ha := yrw_some H rfl h1
      obtain ⟨ys, hz, hl, ht⟩ := zrow_of H ha
      split at h3
      · rename_i hv
        cases h3
        have kp := k_fill (scr := scr) (v := v) hz hv.2.2.1 (by omega)
        refine ⟨_, ?_, fun P k => px_callv (o := (.inl none, _)) ⟨by simp, by simp; omega, Nat.le_of_ble_eq_true rfl⟩ (zrcv_r rfl hz.1) kp rfl k⟩
        refine yrep_rset1 H ha (by rw [yfl_len]; exact hl) (by simp; omega) ?_ (ys' := yfl v ii.toNat 0 ys) ?_
        · rw [List.length_replicate]; exact yfl_take v (by omega)
        · rw [List.length_replicate, show ((ii.toNat : Nat) : Int) = ii by omega]
      · cases h3
    · cases hq
  | invokespecial i0 =>
    have hq : yIS x st h2 = some q := hq
    unfold yIS at hq
    split at hq
    · rename_i ii a st' _
      split at hq
      · rename_i hv
        cases hq
        obtain ⟨v1, v2, v3, v4, v5⟩ := hv
        have hfr : ∃ f0 f1, h2.1[a]? = some (cO 4 [f0, f1]) := by
          unfold yfr at v4
          split at v4
          · rename_i f0 f1 h9
            exact ⟨f0, f1, h9⟩
          · cases v4
        obtain ⟨f0, f1, hfr⟩ := hfr
        have hr1 := yrep_at H hfr (yraw_O _ (by decide))
        have kp := k_init (scr := scr) hr1 v2 v3 (by rw [← H.1]; exact v5)
        refine ⟨((h.1 ++ [cI 0 (List.replicate ii.toNat 0)]).set a (cO 4 [vR (some (a + 1)), vI 0]), h.2), ?_, fun P k => ?_⟩
        rotate_left
        · obtain ⟨n1, o1, e1, rfl⟩ := kp
          obtain ⟨n2, r2, e2, e3⟩ := k
          refine ⟨n1 + n2 + 1, r2, ?_, e3⟩
          simp only [zrun]
          dsimp only [zstp]
          rw [if_pos (show zref (Sum.inl ii :: Sum.inr (Sum.inr (Sum.inl (some a))) :: st') 2 = true from rfl)]
          unfold zinv
          rw [if_pos ⟨by simp, by simp; omega, Nat.le_of_ble_eq_true rfl⟩]
          have e4 := zrun_mono_le (n' := n1 + n2) (by omega) e1
          show Option.bind (zrun scr zprog zmxl zfks (n1 + n2) 0 (zprog 0 0) (zent zmxl 0 [vR (some a), vI ii]) [] h) _ = _
          rw [e4]
          exact zrun_mono_le (by omega) e2
        · obtain ⟨e1, e2, e3, e4⟩ := H
          have hal := (List.getElem?_eq_some_iff.mp hfr).1
          have hal1 : a < h.1.length := by omega
          refine ⟨by simp [e1], e2, fun b c hb hr => ?_, fun b k fs hb hk => ?_⟩
          · dsimp only at hb ⊢
            by_cases hbl : b < h2.1.length
            · rw [List.getElem?_append_left (by simpa using hbl)] at hb
              by_cases hab : a = b
              · subst hab
                rw [List.getElem?_set_self hal] at hb
                cases hb
                have := hr _ _ rfl
                omega
              · rw [List.getElem?_set_ne hab] at hb ⊢
                rw [List.getElem?_append_left (by omega)]
                exact e3 b c hb hr
            · rw [List.getElem?_append_right (by simp; omega)] at hb
              have := List.mem_of_getElem? hb
              simp at this
              subst this
              have := hr _ _ rfl
              omega
          · dsimp only at hb ⊢
            by_cases hbl : b < h2.1.length
            · rw [List.getElem?_append_left (by simpa using hbl)] at hb
              by_cases hab : a = b
              · subst hab
                rw [List.getElem?_set_self hal] at hb
                cases hb
                refine Or.inr ⟨[], List.replicate ii.toNat 0, by simp, rfl, by simp; omega, by simp, by simp, ?_, ?_, ?_⟩
                · rw [List.length_replicate, List.getElem?_append_right (by simp; omega)]
                  simp [show a + 1 - h2.1.length = 0 by omega]
                · rw [List.getElem?_set_self (by simp; omega)]
                  rfl
                · rw [List.getElem?_set_ne (by omega), List.getElem?_append_right (by omega), show a + 1 - h.1.length = 0 by omega]
                  rfl
              · rw [List.getElem?_set_ne hab] at hb
                rcases e4 b k fs hb hk with ⟨ys, f1, f2, f3⟩ | ⟨xs, ys, f1, f2, f3, f4, f5, f6, f7, f8⟩
                · exact Or.inl ⟨ys, f1, f2, by rw [List.getElem?_set_ne hab, List.getElem?_append_left (by omega)]; exact f3⟩
                · have hl6 := (List.getElem?_eq_some_iff.mp f6).1
                  have hab1 : a ≠ b + 1 := fun h9 => by
                    subst h9
                    rw [f6] at hfr
                    have h10 : (101 + 2 * ys.length : Nat) = 4 := (Prod.mk.inj (Sum.inl.inj (Option.some.inj hfr))).1
                    omega
                  refine Or.inr ⟨xs, ys, f1, f2, f3, f4, f5, ?_, ?_, ?_⟩
                  · rw [List.getElem?_append_left (by simpa using hl6), List.getElem?_set_ne hab1]; exact f6
                  · rw [List.getElem?_set_ne hab, List.getElem?_append_left (by omega)]; exact f7
                  · rw [List.getElem?_set_ne hab1, List.getElem?_append_left (by omega)]; exact f8
            · rw [List.getElem?_append_right (by simp; omega)] at hb
              have hb9 := List.mem_of_getElem? hb
              have hlt := (List.getElem?_eq_some_iff.mp hb).1
              simp at hlt
              simp [rHid] at hb9
              obtain ⟨rfl, rfl⟩ := hb9
              refine Or.inl ⟨List.replicate ii.toNat 0, rfl, by simp, ?_⟩
              rw [List.getElem?_set_ne (by omega), List.getElem?_append_right (by omega), show b - h.1.length = 0 by omega]
              rfl
      · cases hq
    · cases hq
  | _ => cases hq
theorem ysim : ∀ n, ysm scr (yrun scr zprog zmxl zfks n)
  | 0 => fun m c ls st h2 h res _ hr => by simp [yrun] at hr
  | n + 1 => fun m c ls st h2 h res H hr => by
    have ih := ysim n
    match c, hr with
    | [], hr => simp [yrun] at hr
    | (pc, i, x) :: r, hr =>
      simp only [yrun] at hr
      split at hr
      · rename_i hok
        split at hr
        · rename_i q hq
          obtain ⟨h', H', k⟩ := yprim_sim (scr := scr) (m := m) (pc := pc) (r := r) (ls := ls) H hq
          obtain ⟨N, h'', e1, e2⟩ := ih _ _ _ _ _ _ _ H' hr
          obtain ⟨N2, o, e3, rfl⟩ := k (fun o => o = (res.1, h'')) ⟨N, _, e1, rfl⟩
          exact ⟨N2, h'', e3, e2⟩
        · split at hr
          · cases hr
          · split at hr
            · rename_i hb
              unfold yalt at hb
              split at hb
              · split at hb
                · rename_i y n0 t _ _
                  obtain ⟨N, h', e1, e2⟩ := zinv_sim ih H hr
                  refine ⟨N + 1, h', ?_, e2⟩
                  simp only [zrun]
                  show (if zrcv st h n0 4 = true then _ else none) = _
                  rw [if_pos]
                  · exact e1
                  · split at hb
                    · rename_i k hk
                      obtain ⟨rr, hrr⟩ := Option.isSome_iff_exists.mp hb
                      obtain ⟨ys, hz, -, -⟩ := zrow_of H (yrw_some H rfl hrr)
                      exact zrcv_r hk hz.1
                    · cases hb
                · cases hb
              · cases hb
            · obtain ⟨N, h', e1, e2⟩ := zstp_sim ih hok H hr
              refine ⟨N + 1, h', ?_, e2⟩
              simp only [zrun]
              exact e1
      · cases hr
end
