def yfl (v : Int) : Nat → Nat → List Int → List Int
  | 0, _, ys => ys
  | j + 1, k, ys => yfl v j (k + 1) (ys.set k v)
theorem yfl_len (v : Int) : ∀ (j k : Nat) (ys : List Int), (yfl v j k ys).length = ys.length
  | 0, _, _ => rfl
  | j + 1, k, ys => by rw [yfl, yfl_len v j]; simp
theorem yfl_at (v : Int) : ∀ (j k : Nat) (ys : List Int) (i : Nat), k + j ≤ ys.length → (yfl v j k ys)[i]? = if k ≤ i ∧ i < k + j then some v else ys[i]?
  | 0, k, ys, i, _ => by rw [if_neg (by omega)]; rfl
  | j + 1, k, ys, i, hl => by
    rw [yfl, yfl_at v j (k + 1) (ys.set k v) i (by simp; omega)]
    by_cases h1 : k = i
    · subst h1
      rw [if_neg (by omega), if_pos (by omega), List.getElem?_set_self (by omega)]
    · by_cases h2 : k + 1 ≤ i ∧ i < k + 1 + j
      · rw [if_pos h2, if_pos (by omega)]
      · rw [if_neg h2, if_neg (by omega), List.getElem?_set_ne h1]
theorem yfl_take (v : Int) {n : Nat} {ys : List Int} (hl : n ≤ ys.length) : (yfl v n 0 ys).take n = List.replicate n v := by
  apply List.ext_getElem?
  intro i
  rw [List.getElem?_take, List.getElem?_replicate]
  by_cases hi : i < n
  · rw [if_pos hi, if_pos hi, yfl_at v n 0 ys i (by omega), if_pos (by omega)]
  · rw [if_neg hi, if_neg hi]
section
variable {scr : List Int}
theorem set_id {l : List AC} {a : Nat} {c : AC} (hc : l[a]? = some c) : l.set a c = l := by
  apply List.ext_getElem?
  intro i
  by_cases hi : a = i
  · subst hi
    rw [List.getElem?_set_self (List.getElem?_eq_some_iff.mp hc).1]
    exact hc.symm
  · rw [List.getElem?_set_ne hi]
theorem k_fill_loop {a n : Nat} {v : Int} : ∀ (j k : Nat) (h : Hp) (ys : List Int), zrow h a n ys → k + j = n → Px scr 8 (zprog 8 1) [some (vR (some a)), some (vI n), some (vI v), some (vI k)] [] h (fun q => q = (.inl none, (h.1.set (a + 1) (cI 0 (yfl v j k ys)), h.2)))
  | 0, k, h, ys, H, hk => by
    obtain ⟨h1, h2, h3, h4⟩ := H
    have e1 := nrm_zr (zrB_n (n := n) (by omega))
    have e2 := nrm_zr (zrB_n (n := k) (by omega))
    refine px_s (fun _ => rfl) ?_
    refine px_s (fun _ => rfl) ?_
    refine px_getfield (rdF_at h1 rfl) ?_
    refine px_icT (by rw [e1, e2]; exact zge_t (by omega)) ?_
    rw [show yfl v 0 k ys = ys from rfl, set_id h2]
    exact px_e (fun _ => rfl) rfl
  | j + 1, k, h, ys, H, hk => by
    obtain ⟨h1, h2, h3, h4⟩ := id H
    have e1 := nrm_zr (zrB_n (n := n) (by omega))
    have e2 := nrm_zr (zrB_n (n := k) (by omega))
    refine px_s (fun _ => rfl) ?_
    refine px_s (fun _ => rfl) ?_
    refine px_getfield (rdF_at h1 rfl) ?_
    refine px_icF (by rw [e1, e2]; exact zge_f (by omega)) ?_
    refine px_s (fun _ => rfl) ?_
    refine px_s (fun _ => rfl) ?_
    refine px_s (fun _ => rfl) ?_
    have hp := k_put (scr := scr) (i := (k : Int)) (v := v) H (zrB_n (by omega))
    rw [if_pos ⟨by omega, by omega⟩] at hp
    refine px_callv (y := 3) (n := 3) (ci := 4) (hs := []) ⟨Nat.le_of_ble_eq_true rfl, Nat.le_of_ble_eq_true rfl, Nat.le_of_ble_eq_true rfl⟩ (by unfold zrcv zis; simp [h1]) hp (v := none) rfl ?_
    refine px_s (fun _ => rfl) ?_
    refine px_s (fun _ => rfl) ?_
    have H' : zrow (h.1.set (a + 1) (cI 0 (ys.set (k : Int).toNat v)), h.2) a n (ys.set k v) := by
      refine ⟨?_, ?_, by simpa using h3, by simpa using h4⟩
      · dsimp only; rw [List.getElem?_set_ne (by omega)]; exact h1
      · dsimp only; rw [List.getElem?_set_self (List.getElem?_eq_some_iff.mp h2).1]; rfl
    have ih := k_fill_loop (v := v) j (k + 1) _ (ys.set k v) H' (by omega)
    refine ih.mono (fun q hq => ?_)
    rw [hq]
    dsimp only
    rw [List.set_set]
    rfl
theorem k_fill {a n : Nat} {ys : List Int} {i v : Int} {h : Hp} (H : zrow h a n ys) (h0 : 0 ≤ i) (hi : i ≤ (ys.length : Int)) : Px scr 8 (zprog 8 0) (zent zmxl 8 [vR (some a), vI i, vI v]) [] h (fun q => q = (.inl none, (((h.1.set a (cO 4 [vR (some (a + 1)), vI i])).set (a + 1) (cI 0 (yfl v i.toNat 0 ys)), h.2)))) := by
  obtain ⟨h1, h2, h3, h4⟩ := id H
  obtain ⟨n', rfl⟩ : ∃ n' : Nat, i = n' := ⟨i.toNat, by omega⟩
  have e1 := nrm_zr (zrB_n (n := n') (by omega))
  have e3 := nrm_zr (zrB_n (n := ys.length) (by omega))
  refine px_s (fun _ => rfl) ?_
  refine px_s (fun _ => rfl) ?_
  refine px_s (fun _ => rfl) ?_
  refine px_s (fun _ => rfl) ?_
  refine px_getfield (rdF_at h1 rfl) ?_
  refine px_alen (zlen_at h2) ?_
  refine px_min (Nat.le_of_ble_eq_true rfl) ?_
  rw [e3, e1, if_neg (by omega)]
  refine px_max (Nat.le_of_ble_eq_true rfl) ?_
  rw [e1, nrm_0, show (if (0 : Int) < (n' : Int) then (n' : Int) else 0) = (n' : Int) by split <;> omega]
  refine px_putI rfl (wrF_at h1 (by show _ < 2; decide)) ?_
  refine px_s (fun _ => rfl) ?_
  refine px_s (fun _ => rfl) ?_
  refine px_s (fun _ => rfl) ?_
  have H' : zrow (h.1.set a (cO 4 [vR (some (a + 1)), vI n']), h.2) a n' ys := by
    refine ⟨?_, ?_, h3, by omega⟩
    · dsimp only; rw [List.getElem?_set_self (List.getElem?_eq_some_iff.mp h1).1]
    · dsimp only; rw [List.getElem?_set_ne (by omega)]; exact h2
  exact k_fill_loop (scr := scr) (v := v) n' 0 _ ys H' (by omega)
theorem k_init {a : Nat} {i : Int} {h : Hp} {f0 f1 : AV} (h1 : h.1[a]? = some (cO 4 [f0, f1])) (h0 : 0 ≤ i) (hi : i < 1000000) (hl : a + 1 = h.1.length) : Px scr 0 (zprog 0 0) (zent zmxl 0 [vR (some a), vI i]) [] h (fun q => q = (.inl none, ((h.1 ++ [cI 0 (List.replicate i.toNat 0)]).set a (cO 4 [vR (some (a + 1)), vI 0]), h.2))) := by
  have e1 := nrm_zr (zrB_t (i := i) (by omega) (by omega))
  have ha := (List.getElem?_eq_some_iff.mp h1).1
  refine px_s (fun _ => rfl) ?_
  refine px_s (fun _ => rfl) ?_
  refine px_s (fun _ => rfl) ?_
  refine px_s (fun _ => rfl) ?_
  refine px_s (fun _ => rfl) ?_
  refine px_max (Nat.le_of_ble_eq_true rfl) ?_
  rw [e1, nrm_0, show (if (0 : Int) < i then i else 0) = i by split <;> omega]
  refine px_s (fun _ => if_pos ⟨h0, hi⟩) ?_
  have h1' : (h.1 ++ [zarr 0 i.toNat])[a]? = some (cO 4 [f0, f1]) := by rw [List.getElem?_append_left ha]; exact h1
  refine px_putR rfl (wrF_at (h := (h.1 ++ [zarr 0 i.toNat], h.2)) h1' (by show _ < 2; decide)) ?_
  refine px_s (fun _ => rfl) ?_
  refine px_s (fun _ => rfl) ?_
  have h2' : ((h.1 ++ [zarr 0 i.toNat]).set a (cO 4 [vR (some h.1.length), f1]))[a]? = some (cO 4 [vR (some h.1.length), f1]) := List.getElem?_set_self (by simp; omega)
  refine px_putI rfl (wrF_at (h := ((h.1 ++ [zarr 0 i.toNat]).set a (cO 4 [vR (some h.1.length), f1]), h.2)) h2' (by show _ < 2; decide)) ?_
  refine px_e (fun _ => rfl) ?_
  dsimp only
  rw [List.set_set, hl]
  rfl
end
