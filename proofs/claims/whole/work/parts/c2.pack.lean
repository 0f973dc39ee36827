/-! the pure part: short codes are the same -/
theorem ms_ok {C : List Int} (hC : C.length = 26) {bound : Nat} : ∀ (j rd : Nat) (A R K : List Int), R = (pkN C rd).map wv → K.length = bound * 52 → rd + j = bound → (∀ r t : Nat, r < rd → 1 ≤ t → t ≤ (pkN C (r + 1)).length → yat K ((52 * r + t : Nat) : Int) = (cntT ((rwS C (pkN C r)).take t) : Nat)) → ∀ r t : Nat, r < bound → 1 ≤ t → t ≤ (pkN C (r + 1)).length → yat (msF C (sortP C) j rd A R K).2.2 ((52 * r + t : Nat) : Int) = (cntT ((rwS C (pkN C r)).take t) : Nat)
  | 0, rd, A, R, K, hR, hK, hj, h => fun r t h1 h2 h3 => h r t (by omega) h2 h3
  | j + 1, rd, A, R, K, hR, hK, hj, h => by
    unfold msF
    have hl := lr_mg (b := 52 * rd) (C := C) (O := sortP C) (V := pkN C rd) ((sortP C).length + (pkN C rd).length / 2) 0 0 [] K (Nat.zero_le _) (Nat.zero_le _) (by omega)
    have e : lrQ rd C (sortP C) R K = lrF (52 * rd) C (sortP C) ((pkN C rd).map wv) ((sortP C).length + (pkN C rd).length / 2) 0 0 [] K := by
      unfold lrQ
      rw [hR, List.length_map]
    rw [← e] at hl
    obtain ⟨l1, l2, l3, l4⟩ := hl
    have em : mgF ((sortP C).length + (pkN C rd).length / 2) ((coS C (sortP C)).drop 0) ((paS (pkN C rd)).drop 0) = rwS C (pkN C rd) := rfl
    rw [em] at l1 l4
    have hlen : ∀ b, (pkN C (b + 1)).length = (sortP C).length + (pkN C b).length / 2 := fun b => by
      have h1 := pkN_len hC b
      have h2 := sortP_ab C
      omega
    have h51 := pkN_le hC
    refine ms_ok hC j (rd + 1) R _ _ ?_ (by rw [l2]; exact hK) (by omega) (fun r t h1 h2 h3 => ?_)
    · rw [l1, List.nil_append, pkN_mg hC rd, List.map_map]
      rfl
    · have h6 := h51 (r + 1)
      have h7 := h51 (rd + 1)
      by_cases hr : r = rd
      · subst hr
        have hb : 52 * r + t < K.length := by
          rw [hK]
          omega
        have := l4 t h2 (by rw [← hlen]; exact h3) (by simpa using hb)
        rw [show (52 * r + ([] : List Int).length + t : Nat) = 52 * r + t by simp, Nat.zero_add] at this
        exact this
      · rw [l3 (52 * r + t) (.inl (by simp; omega))]
        exact h r t (by omega) h2 h3
theorem cv_at {o : Nat} {w : Int} {s : Nat} (hs : s < 26) : yat (cvF o w) s = if s = o then 1 else 0 := by
  unfold cvF
  rw [yat_app (by rw [uv_len]; omega), uv_at hs]
theorem vsF_co {C : List Int} {s : Nat} (hs : s < 26) : ∀ l : List Int, (∀ x ∈ l, 0 ≤ x) → vsF s (coS C l) = (l.count (s : Int) : Nat)
  | [], _ => rfl
  | x :: t, h => by
    have ih := vsF_co (C := C) hs t (fun y hy => h y (.tail _ hy))
    have hx := h x (.head _)
    have e : vsF s (coS C (x :: t)) = yat (cvF x.toNat (yat C x)) s + vsF s (coS C t) := by
      unfold vsF coS
      rw [List.map_cons, List.map_cons, List.sum_cons]
    rw [e, cv_at hs, ih, List.count_cons]
    by_cases hx2 : x = s
    · rw [if_pos (by omega), hx2]
      simp
      omega
    · rw [if_neg (by omega)]
      simp [hx2]
theorem vsF_pa {s : Nat} (hs : s < 26) (V : List vcT) : ∀ p : Nat, 2 * p ≤ V.length → vsF s ((paS V).take p) = vsF s (V.take (2 * p))
  | 0, _ => rfl
  | p + 1, h => by
    have ih := vsF_pa hs V p (by omega)
    have hp : p < (paS V).length := by rw [paS_len]; omega
    have e1 : (paS V).take (p + 1) = (paS V).take p ++ [(paS V)[p]] := by
      rw [List.take_succ, List.getElem?_eq_getElem hp]
      rfl
    have e2 : V.take (2 * (p + 1)) = V.take (2 * p) ++ [V[2 * p]'(by omega)] ++ [V[2 * p + 1]'(by omega)] := by
      rw [show 2 * (p + 1) = 2 * p + 1 + 1 by omega, List.take_succ, List.take_succ, List.getElem?_eq_getElem (by omega), List.getElem?_eq_getElem (by omega)]
      rfl
    rw [e1, e2]
    unfold vsF at ih ⊢
    rw [List.map_append, List.map_append, List.map_append, List.sum_append, List.sum_append, List.sum_append, ih, paS_get]
    have h1 := vad_at (x := V.getD (2 * p) []) (y := V.getD (2 * p + 1) []) (i := s) (by omega)
    simp only [List.map_cons, List.map_nil, List.sum_cons, List.sum_nil]
    rw [h1, getDv (by omega), getDv (by omega)]
    omega
theorem ctIn_at {O : List Int} (hO : ∀ x ∈ O, 0 ≤ x ∧ x < 26) {s : Nat} (hs : s < 26) : ∀ (j i : Nat) (L : List Int), i + j ≤ O.length → L.length = 26 → yat (ctIn O j i L) s = yat L s + (((O.drop i).take j).count (s : Int) : Nat)
  | 0, i, L, _, _ => by
    unfold ctIn
    rw [List.take_zero]
    simp
  | j + 1, i, L, h, hL => by
    have hi : i < O.length := by omega
    have hx := hO _ (yat_mem (W := O) hi)
    have ih := ctIn_at hO hs j (i + 1) (yput L (yat O i) (yat L (yat O i) + 1)) (by omega) (by rw [yput_len]; exact hL)
    unfold ctIn
    rw [ih, drop_yat (xs := O) hi, List.take_succ_cons, List.count_cons]
    by_cases hx2 : yat O i = s
    · rw [hx2, yat_pu (by omega)]
      simp
      omega
    · rw [yat_ne (fun h => hx2 h.symm)]
      simp [hx2]
theorem ct_ok {C K : List Int} (hC : C.length = 26) (hnn : ∀ x ∈ C, 0 ≤ x) {bound : Nat} (hK : ∀ r t : Nat, r < bound → 1 ≤ t → t ≤ (pkN C (r + 1)).length → yat K ((52 * r + t : Nat) : Int) = (cntT ((rwS C (pkN C r)).take t) : Nat)) {s : Nat} (hs : s < 26) : ∀ (r t : Nat) (L : List Int), r ≤ bound → t ≤ (pkN C r).length → L.length = 26 → yat (ctF (sortP C) K r t L) s = yat L s + vsF s ((pkN C r).take t)
  | 0, t, L, _, ht, _ => by
    have : t = 0 := by
      have : (pkN C 0).length = 0 := rfl
      omega
    subst this
    unfold ctF
    rw [List.take_zero]
    simp [vsF]
  | r + 1, t, L, hr, ht, hL => by
    have hO : ∀ x ∈ sortP C, 0 ≤ x ∧ x < 26 := fun x hx => by
      have := ((sortP_ok C).2 x).mp hx
      omega
    unfold ctF
    by_cases h0 : t = 0
    · subst h0
      rw [if_neg (by omega), List.take_zero]
      simp [vsF]
    · rw [if_pos (by omega), show 52 * (r : Int) + (t : Int) = ((52 * r + t : Nat) : Int) by omega, hK r t (by omega) (by omega) ht]
      have hlen : (pkN C (r + 1)).length = (sortP C).length + (pkN C r).length / 2 := by
        have h1 := pkN_len hC r
        have h2 := sortP_ab C
        omega
      have hm := mg_take s ((sortP C).length + (pkN C r).length / 2) t (coS C (sortP C)) (paS (pkN C r)) (by rw [coS_len, paS_len]) (by omega)
      have em : mgF ((sortP C).length + (pkN C r).length / 2) (coS C (sortP C)) (paS (pkN C r)) = rwS C (pkN C r) := rfl
      rw [em, ← pkN_mg hC r, coS_len, paS_len] at hm
      obtain ⟨c, hc⟩ : ∃ c, c = cntT ((rwS C (pkN C r)).take t) := ⟨_, rfl⟩
      rw [← hc] at hm ⊢
      obtain ⟨m1, m2, m3, m4⟩ := hm
      rw [Int.toNat_natCast, show 2 * ((t : Int) - (c : Int)) = ((2 * (t - c) : Nat) : Int) by omega]
      have ih := ct_ok hC hnn hK hs r (2 * (t - c)) (ctIn (sortP C) c 0 L) (by omega) (by omega) (by rw [ctIn_len]; exact hL)
      rw [ih, ctIn_at hO hs c 0 L (by omega) hL, List.drop_zero, m4, vsF_pa hs _ _ (by omega)]
      have e : (coS C (sortP C)).take c = coS C ((sortP C).take c) := by
        unfold coS
        rw [List.map_take]
      rw [e, vsF_co hs _ (fun x hx => (hO x (List.mem_of_mem_take hx)).1)]
      omega
theorem plF_vs {V : List vcT} {s : Nat} : ∀ (j k : Nat) (c : Int), k + j ≤ V.length → plF V s j k c = c + vsF s ((V.drop k).take j)
  | 0, k, c, _ => by
    unfold plF vsF
    simp
  | j + 1, k, c, h => by
    unfold plF
    rw [plF_vs j (k + 1) _ (by omega), drop_get (l := V) (show k < V.length by omega), List.take_succ_cons, getDv (by omega)]
    unfold vsF
    rw [List.map_cons, List.sum_cons]
    omega
theorem zpF_at : ∀ (O L : List Int), (∀ x ∈ O, 0 ≤ x ∧ x < 26) → L.length = 26 → ∀ s : Nat, yat (zpF O L) s = if (s : Int) ∈ O then 0 else yat L s
  | [], L, _, _, s => by
    show yat L s = _
    rw [if_neg (by simp)]
  | o :: t, L, hO, hL, s => by
    have ho := hO o (.head _)
    have ih := zpF_at t (yput L o 0) (fun x hx => hO x (.tail _ hx)) (by rw [yput_len]; exact hL) s
    show yat (zpF t (yput L o 0)) s = _
    rw [ih]
    by_cases h1 : (s : Int) ∈ t
    · rw [if_pos h1, if_pos (.tail _ h1)]
    · rw [if_neg h1]
      by_cases h2 : (s : Int) = o
      · rw [if_pos (by rw [h2]; exact .head _), h2, yat_pu (by omega)]
      · rw [if_neg (fun h3 => by
          rcases List.mem_cons.mp h3 with h4 | h4
          · exact h2 h4
          · exact h1 h4), yat_ne h2]
theorem room_ge {C : List Int} (hC : C.length = 26) {b : Nat} (hb : 1 ≤ b) (h1 : 1 ≤ abF C) (hr : abF C ≤ 2 ^ b) : 2 * abF C - 2 ≤ (pkN C b).length := by
  obtain ⟨b', rfl⟩ : ∃ b', b = b' + 1 := ⟨b - 1, by omega⟩
  have h2 := pkN_ge hC b'
  have h3 : (abF C - 1) / 2 ^ b' ≤ 1 := by
    have hp : (0 : Int) < 2 ^ b' := Int.pow_pos (by omega)
    rw [Int.pow_succ] at hr
    have : (abF C - 1) / 2 ^ b' < 2 := Int.ediv_lt_of_lt_mul hp (by omega)
    omega
  omega
theorem vs_out {C : List Int} (hC : C.length = 26) {s : Nat} (hs : s < 26) (h0 : ¬ 0 < yat C s) : ∀ b : Nat, ∀ v ∈ pkN C b, yat v s = 0
  | 0, v, hv => by cases hv
  | b + 1, v, hv => by
    have ih := vs_out hC hs h0 b
    rw [pkN_mg hC b] at hv
    obtain ⟨x, hx, rfl⟩ := List.mem_map.mp hv
    rcases mg_mem _ _ _ x hx with h | h
    · obtain ⟨k, hk, e⟩ := List.getElem_of_mem h
      have hk2 : k < (sortP C).length := by rwa [coS_len] at hk
      have hm := ((sortP_ok C).2 ((sortP C).getD k 0)).mp (by rw [getD_get hk2]; exact List.getElem_mem _)
      rw [← e, coS_get, cv_at hs, if_neg]
      intro h2
      rw [show ((s : Nat) : Int) = (sortP C).getD k 0 by omega] at h0
      exact h0 hm.2.2
    · obtain ⟨k, hk, e⟩ := List.getElem_of_mem h
      have hk2 : k < (pkN C b).length / 2 := by rwa [paS_len] at hk
      rw [← e, paS_get, vad_at (by omega), getDv (by omega), getDv (by omega), ih _ (List.getElem_mem _), ih _ (List.getElem_mem _)]
      rfl
theorem msL_at {C : List Int} (hC : C.length = 26) (hnn : ∀ x ∈ C, 0 ≤ x) {b : Nat} (hb : 1 ≤ b) (h1 : 1 ≤ abF C) (hr : abF C ≤ 2 ^ b) {s : Nat} (hs : s < 26) : yat (msL C b) s = if 0 < yat C s then vsF s ((pkN C b).take (2 * abF C - 2).toNat) else -1 := by
  have hab := sortP_ab C
  have hg := room_ge hC hb h1 hr
  have hO : ∀ x ∈ sortP C, 0 ≤ x ∧ x < 26 := fun x hx => by
    have := ((sortP_ok C).2 x).mp hx
    omega
  have hm := ms_ok hC (bound := b) b 0 [] [] (List.replicate (b * 52) 0) rfl (by simp) (by omega) (fun r t h => by omega)
  have hzl : (zpF (sortP C) (List.replicate 26 (-1))).length = 26 := by rw [zpF_len]; simp
  have hc := ct_ok hC hnn hm hs b (2 * abF C - 2).toNat (zpF (sortP C) (List.replicate 26 (-1))) (Nat.le_refl _) (by omega) hzl
  have hz := zpF_at (sortP C) (List.replicate 26 (-1)) hO (by simp) s
  have hrp : yat (List.replicate 26 (-1)) s = -1 := by
    rw [yat_n, getD_get (by simp; exact hs), List.getElem_replicate]
  have e : msL C b = ctF (sortP C) (msF C (sortP C) b 0 [] [] (List.replicate (b * 52) 0)).2.2 b ((2 * abF C - 2).toNat : Nat) (zpF (sortP C) (List.replicate 26 (-1))) := by
    unfold msL msQ
    rw [show (2 * ((sortP C).length : Int) - 2) = (((2 * abF C - 2).toNat : Nat) : Int) by omega]
  rw [e, hc, hz]
  have hmem : (s : Int) ∈ sortP C ↔ 0 < yat C s := by
    rw [(sortP_ok C).2]
    constructor
    · intro h
      exact h.2.2
    · intro h
      exact ⟨by omega, by omega, h⟩
  by_cases h2 : 0 < yat C s
  · rw [if_pos h2, if_pos (hmem.mpr h2)]
    omega
  · rw [if_neg h2, if_neg (fun h => h2 (hmem.mp h)), hrp]
    have h3 : vsF s ((pkN C b).take (2 * abF C - 2).toNat) = 0 := by
      unfold vsF
      have : ((pkN C b).take (2 * abF C - 2).toNat).map (fun v => yat v s) = List.replicate ((pkN C b).take (2 * abF C - 2).toNat).length 0 := by
        rw [List.eq_replicate_iff]
        refine ⟨List.length_map .., fun x hx => ?_⟩
        obtain ⟨v, hv, rfl⟩ := List.mem_map.mp hx
        exact vs_out hC hs h2 b v (List.mem_of_mem_take hv)
      rw [this]
      simp
    omega
theorem ms_pk {C : List Int} (hC : C.length = 26) (hnn : ∀ x ∈ C, 0 ≤ x) {b : Nat} (hb : 1 ≤ b) (h1 : 1 ≤ abF C) (hr : abF C ≤ 2 ^ b) : msL C b = pkL C b := by
  refine ext_yat (by rw [msL_len, pkL_len]) fun s hs => ?_
  rw [pkL_len] at hs
  have hg := room_ge hC hb h1 hr
  rw [msL_at hC hnn hb h1 hr hs, pkL_at C b hs, plF_vs _ _ _ (by omega), List.drop_zero, Int.zero_add]
