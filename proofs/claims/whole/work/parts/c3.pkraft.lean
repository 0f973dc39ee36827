/-! the pure part: short codes fill -/
theorem vs_heavy {C : List Int} (hC : C.length = 26) {s : Nat} (hs : s < 26) : ∀ b : Nat, ∀ v ∈ pkN C b, 0 ≤ yat v s ∧ (1 ≤ yat v s → yat C s ≤ wv v)
  | 0, v, hv => by cases hv
  | b + 1, v, hv => by
    have ih := vs_heavy hC hs b
    have ip := pkN_pos hC b
    rw [pkN_mg hC b] at hv
    obtain ⟨x, hx, rfl⟩ := List.mem_map.mp hv
    rcases mg_mem _ _ _ x hx with h | h
    · obtain ⟨k, hk, e⟩ := List.getElem_of_mem h
      have hk2 : k < (sortP C).length := by rwa [coS_len] at hk
      have hm := ((sortP_ok C).2 ((sortP C).getD k 0)).mp (by rw [getD_get hk2]; exact List.getElem_mem _)
      rw [← e, coS_get, cv_at hs, wv_cv]
      split
      · rename_i h2
        rw [show ((s : Nat) : Int) = (sortP C).getD k 0 by omega]
        omega
      · omega
    · obtain ⟨k, hk, e⟩ := List.getElem_of_mem h
      have hk2 : k < (pkN C b).length / 2 := by rwa [paS_len] at hk
      rw [← e, paS_get, vad_at (by omega), wv_va, getDv (by omega), getDv (by omega)]
      have h1 := ih _ (List.getElem_mem (show 2 * k < (pkN C b).length by omega))
      have h2 := ih _ (List.getElem_mem (show 2 * k + 1 < (pkN C b).length by omega))
      have h3 := ip _ (List.getElem_mem (show 2 * k < (pkN C b).length by omega))
      have h4 := ip _ (List.getElem_mem (show 2 * k + 1 < (pkN C b).length by omega))
      omega
theorem vsF_nn {s : Nat} : ∀ l : List vcT, (∀ v ∈ l, 0 ≤ yat v s) → 0 ≤ vsF s l ∧ (0 < vsF s l → ∃ v, v ∈ l ∧ 1 ≤ yat v s)
  | [], _ => ⟨Int.le_refl _, fun h => by simp [vsF] at h⟩
  | v :: t, h => by
    have ih := vsF_nn t (fun x hx => h x (.tail _ hx))
    have hv := h v (.head _)
    have e : vsF s (v :: t) = yat v s + vsF s t := by
      unfold vsF
      rw [List.map_cons, List.sum_cons]
    rw [e]
    refine ⟨by omega, fun h2 => ?_⟩
    by_cases h3 : 1 ≤ yat v s
    · exact ⟨v, .head _, h3⟩
    · obtain ⟨x, hx, h4⟩ := ih.2 (by omega)
      exact ⟨x, .tail _ hx, h4⟩
section
variable {C : List Int}
/-- how often a sign is in the first ones -/
abbrev lvF (C : List Int) (r t : Nat) (s : Int) : Int := vsF s.toNat ((pkN C r).take t)
theorem lv_step (hC : C.length = 26) {r t : Nat} (ht : t ≤ (pkN C (r + 1)).length) : ∃ c, c ≤ t ∧ c ≤ (sortP C).length ∧ 2 * (t - c) ≤ (pkN C r).length ∧ (∀ s ∈ (sortP C).take c, lvF C (r + 1) t s = 1 + lvF C r (2 * (t - c)) s) ∧ ∀ s ∈ (sortP C).drop c, lvF C (r + 1) t s = 0 ∧ lvF C r (2 * (t - c)) s = 0 := by
  have hlen : (pkN C (r + 1)).length = (sortP C).length + (pkN C r).length / 2 := by
    have h1 := pkN_len hC r
    have h2 := sortP_ab C
    omega
  have hnd := srt_nd (sortP_ok C).1
  have hO : ∀ x ∈ sortP C, 0 ≤ x ∧ x < 26 := fun x hx => by
    have := ((sortP_ok C).2 x).mp hx
    omega
  have hm := fun s => mg_take s ((sortP C).length + (pkN C r).length / 2) t (coS C (sortP C)) (paS (pkN C r)) (by rw [coS_len, paS_len]) (by omega)
  have hh := mg_heavy ((sortP C).length + (pkN C r).length / 2) t (coS C (sortP C)) (paS (pkN C r)) (by rw [coS_len, paS_len]) (by omega) (coS_sd C) (paS_sd (pkN_sd hC r))
  have em : mgF ((sortP C).length + (pkN C r).length / 2) (coS C (sortP C)) (paS (pkN C r)) = rwS C (pkN C r) := rfl
  rw [em] at hm hh
  rw [← pkN_mg hC r, coS_len, paS_len] at hm
  obtain ⟨c, hc⟩ : ∃ c, c = cntT ((rwS C (pkN C r)).take t) := ⟨_, rfl⟩
  rw [← hc] at hm hh
  have e : (coS C (sortP C)).take c = coS C ((sortP C).take c) := by
    unfold coS
    rw [List.map_take]
  have hst : ∀ s : Nat, s < 26 → vsF s ((pkN C (r + 1)).take t) = (((sortP C).take c).count (s : Int) : Nat) + vsF s ((pkN C r).take (2 * (t - c))) := fun s hs => by
    obtain ⟨m1, m2, m3, m4⟩ := hm s
    rw [m4, vsF_pa hs _ _ (by omega), e, vsF_co hs _ (fun x hx => (hO x (List.mem_of_mem_take hx)).1)]
  obtain ⟨m1, m2, m3, -⟩ := hm 0
  refine ⟨c, m1, m2, by omega, fun s hs => ?_, fun s hs => ?_⟩
  · have hs2 := hO s (List.mem_of_mem_take hs)
    obtain ⟨n, rfl⟩ := Int.eq_ofNat_of_zero_le hs2.1
    have h1 := hst n (by omega)
    have h2 : ((sortP C).take c).count (n : Int) = 1 := by
      have h3 := List.nodup_iff_count.mp (hnd.sublist (List.take_sublist c _)) (n : Int)
      have h4 := List.count_pos_iff.mpr hs
      omega
    rw [h2] at h1
    exact h1
  · have hs2 := hO s (List.mem_of_mem_drop hs)
    obtain ⟨n, rfl⟩ := Int.eq_ofNat_of_zero_le hs2.1
    have h1 := hst n (by omega)
    have h2 : ((sortP C).take c).count (n : Int) = 0 := by
      refine List.count_eq_zero.mpr fun h3 => ?_
      have h4 := List.take_append_drop c (sortP C)
      have h5 : ((sortP C).take c ++ (sortP C).drop c).Nodup := by rw [h4]; exact hnd
      exact (List.nodup_append.mp h5).2.2 _ h3 _ hs rfl
    rw [h2] at h1
    have hz : vsF n ((pkN C r).take (2 * (t - c))) = 0 := by
      have h3 := vsF_nn (s := n) ((pkN C r).take (2 * (t - c))) (fun v hv => (vs_heavy hC (by omega) r v (List.mem_of_mem_take hv)).1)
      by_cases h4 : 0 < vsF n ((pkN C r).take (2 * (t - c)))
      · exfalso
        obtain ⟨v, hv, h5⟩ := h3.2 h4
        obtain ⟨k, hk, rfl⟩ := List.getElem_of_mem hv
        rw [List.length_take] at hk
        rw [List.getElem_take] at h5
        have h6 := (vs_heavy hC (by omega) r _ (List.getElem_mem (show k < (pkN C r).length by omega))).2 h5
        obtain ⟨i, hi, hin⟩ := List.getElem_of_mem hs
        rw [List.length_drop] at hi
        rw [List.getElem_drop] at hin
        have h7 : (coS C (sortP C))[c + i]'(by rw [coS_len]; omega) ∈ (coS C (sortP C)).drop c := by
          rw [List.mem_iff_getElem]
          exact ⟨i, by rw [List.length_drop, coS_len]; omega, by rw [List.getElem_drop]⟩
        have h8 : (paS (pkN C r))[k / 2]'(by rw [paS_len]; omega) ∈ (paS (pkN C r)).take (t - c) := by
          rw [List.mem_iff_getElem]
          exact ⟨k / 2, by rw [List.length_take, paS_len]; omega, by rw [List.getElem_take]⟩
        have h9 := hh _ h7 _ h8
        rw [coS_get, wv_cv, paS_get, wv_va, getDv (by omega), getDv (by omega), getD_get (by omega), hin] at h9
        have p1 := pkN_pos hC r _ (List.getElem_mem (show 2 * (k / 2) < (pkN C r).length by omega))
        have p2 := pkN_pos hC r _ (List.getElem_mem (show 2 * (k / 2) + 1 < (pkN C r).length by omega))
        rcases Nat.mod_two_eq_zero_or_one k with h10 | h10
        · have h11 : 2 * (k / 2) = k := by omega
          have h12 : (pkN C r)[2 * (k / 2)]'(by omega) = (pkN C r)[k]'(by omega) := by congr 1
          rw [h12] at h9
          omega
        · have h11 : 2 * (k / 2) + 1 = k := by omega
          have h12 : (pkN C r)[2 * (k / 2) + 1]'(by omega) = (pkN C r)[k]'(by omega) := by congr 1
          rw [h12] at h9
          omega
      · omega
    have h1' : lvF C (r + 1) t (n : Nat) = 0 + vsF n ((pkN C r).take (2 * (t - c))) := h1
    refine ⟨by rw [h1', hz]; rfl, hz⟩
theorem lv_rng (hC : C.length = 26) : ∀ (r t : Nat), t ≤ (pkN C r).length → ∀ s ∈ sortP C, 0 ≤ lvF C r t s ∧ lvF C r t s ≤ r
  | 0, t, ht, s, hs => by
    have : pkN C 0 = [] := rfl
    unfold lvF
    rw [this]
    simp [vsF]
  | r + 1, t, ht, s, hs => by
    obtain ⟨c, h1, h2, h3, h4, h5⟩ := lv_step hC ht
    have ih := lv_rng hC r (2 * (t - c)) h3 s hs
    rw [← List.take_append_drop c (sortP C)] at hs
    rcases List.mem_append.mp hs with h | h
    · have := h4 s h
      omega
    · have := h5 s h
      omega
theorem map_add_sum (g : Int → Int) (x : Int) : ∀ l : List Int, (l.map (fun s => x + g s)).sum = l.length * x + (l.map g).sum
  | [] => by simp
  | a :: l => by
    have ih := map_add_sum g x l
    rw [List.map_cons, List.map_cons, List.sum_cons, List.sum_cons, ih, List.length_cons, Int.natCast_add, Int.add_mul]
    simp only [Int.natCast_one, Int.one_mul]
    omega
theorem lv_sum (hC : C.length = 26) : ∀ (r t : Nat), t ≤ (pkN C r).length → 2 * ((sortP C).map (fun s => 2 ^ r - 2 ^ (r - (lvF C r t s).toNat))).sum = (t : Int) * 2 ^ r
  | 0, t, ht => by
    have h0 : t = 0 := by
      have : (pkN C 0).length = 0 := rfl
      omega
    subst h0
    have e : (sortP C).map (fun s => (2 : Int) ^ 0 - 2 ^ (0 - (lvF C 0 0 s).toNat)) = List.replicate (sortP C).length 0 := by
      rw [List.eq_replicate_iff]
      refine ⟨List.length_map .., fun x hx => ?_⟩
      obtain ⟨s, _, rfl⟩ := List.mem_map.mp hx
      rw [Nat.zero_sub]
      rfl
    rw [e]
    simp
  | r + 1, t, ht => by
    obtain ⟨c, h1, h2, h3, h4, h5⟩ := lv_step hC ht
    have ih := lv_sum hC r (2 * (t - c)) h3
    have hr := lv_rng hC r (2 * (t - c)) h3
    obtain ⟨g, hg⟩ : ∃ g : Int → Int, g = fun s => 2 ^ r - 2 ^ (r - (lvF C r (2 * (t - c)) s).toNat) := ⟨_, rfl⟩
    rw [← hg, ← List.take_append_drop c (sortP C), List.map_append, List.sum_append] at ih
    rw [← List.take_append_drop c (sortP C), List.map_append, List.sum_append]
    have e1 : ((sortP C).take c).map (fun s => (2 : Int) ^ (r + 1) - 2 ^ (r + 1 - (lvF C (r + 1) t s).toNat)) = ((sortP C).take c).map (fun s => 2 ^ r + g s) := by
      refine List.map_congr_left fun s hs => ?_
      have := hr s (List.mem_of_mem_take hs)
      rw [h4 s hs, hg, Int.pow_succ]
      dsimp only
      rw [show r + 1 - (1 + lvF C r (2 * (t - c)) s).toNat = r - (lvF C r (2 * (t - c)) s).toNat by omega]
      omega
    have e2 : ((sortP C).drop c).map (fun s => (2 : Int) ^ (r + 1) - 2 ^ (r + 1 - (lvF C (r + 1) t s).toNat)) = ((sortP C).drop c).map g := by
      refine List.map_congr_left fun s hs => ?_
      have := h5 s hs
      rw [hg]
      dsimp only
      rw [this.1, this.2]
      show (2 : Int) ^ (r + 1) - 2 ^ (r + 1 - 0) = 2 ^ r - 2 ^ (r - 0)
      rw [Nat.sub_zero, Nat.sub_zero]
      omega
    rw [e1, e2, map_add_sum, List.length_take, show min c (sortP C).length = c by omega, Int.pow_succ]
    have e3 : ((2 * (t - c) : Nat) : Int) * 2 ^ r = 2 * ((t : Int) * 2 ^ r - c * 2 ^ r) := by
      rw [show ((2 * (t - c) : Nat) : Int) = 2 * ((t : Int) - c) by omega, Int.mul_assoc, Int.sub_mul]
    have e4 : (t : Int) * (2 ^ r * 2) = 2 * ((t : Int) * 2 ^ r) := by
      rw [← Int.mul_assoc, Int.mul_comm]
    rw [e4]
    omega
theorem ms_rng (hC : C.length = 26) (hnn : ∀ x ∈ C, 0 ≤ x) {b : Nat} (hb : 1 ≤ b) (h1 : 1 ≤ abF C) (hr : abF C ≤ 2 ^ b) {s : Nat} (hs : s < 26) : -1 ≤ yat (msL C b) s ∧ yat (msL C b) s ≤ b ∧ (0 ≤ yat (msL C b) s ↔ 0 < yat C s) := by
  rw [msL_at hC hnn hb h1 hr hs]
  by_cases h : 0 < yat C s
  · rw [if_pos h]
    have hg := room_ge hC hb h1 hr
    have := lv_rng hC b (2 * abF C - 2).toNat (by omega) s (((sortP_ok C).2 s).mpr ⟨by omega, by omega, h⟩)
    have e : lvF C b (2 * abF C - 2).toNat (s : Nat) = vsF s ((pkN C b).take (2 * abF C - 2).toNat) := rfl
    omega
  · rw [if_neg h]
    omega
theorem ms_share (hC : C.length = 26) (hnn : ∀ x ∈ C, 0 ≤ x) {b : Nat} (hb : 1 ≤ b ∧ b ≤ 25) (h1 : 1 ≤ abF C) (hr : abF C ≤ 2 ^ b) : shF 2 (msL C b) = 2 ^ 25 := by
  have hg := room_ge hC hb.1 h1 hr
  have hab := sortP_ab C
  have hs := lv_sum hC b (2 * abF C - 2).toNat (by omega)
  have hrg := lv_rng hC b (2 * abF C - 2).toNat (by omega)
  obtain ⟨t, ht⟩ : ∃ t, t = (2 * abF C - 2).toNat := ⟨_, rfl⟩
  rw [← ht] at hs hrg
  -- the sum of the shares
  have e1 : shF 2 (msL C b) = ((sortP C).map (fun s => 2 ^ (25 - b) * 2 ^ (b - (lvF C b t s).toNat))).sum := by
    rw [shF_sF, msL_len]
    have h2 := sort_sF C (fun s => if 0 < yat C s then 2 ^ (25 - b) * 2 ^ (b - (lvF C b t s).toNat) else 0) (fun s h => if_neg h)
    rw [hC] at h2
    have h3 : (sortP C).map (fun s => if 0 < yat C s then (2 : Int) ^ (25 - b) * 2 ^ (b - (lvF C b t s).toNat) else 0) = (sortP C).map (fun s => 2 ^ (25 - b) * 2 ^ (b - (lvF C b t s).toNat)) := by
      refine List.map_congr_left fun s hs => ?_
      rw [if_pos (((sortP_ok C).2 s).mp hs).2.2]
    rw [← h3, h2]
    refine sF_congr _ _ fun i _ hi => ?_
    have h4 := ms_rng hC hnn hb.1 h1 hr (s := i) (by omega)
    by_cases h5 : 0 < yat C i
    · rw [if_pos (h4.2.2.mpr h5), if_pos h5, ← Int.pow_add]
      have h6 := msL_at hC hnn hb.1 h1 hr (s := i) (by omega)
      rw [if_pos h5, ← ht] at h6
      have h7 : lvF C b t (i : Nat) = yat (msL C b) i := h6.symm
      rw [h7]
      congr 1
      omega
    · rw [if_neg (fun h => h5 (h4.2.2.mp h)), if_neg h5]
  have e2 : ∀ (f : Int → Int) (x : Int) (l : List Int), (l.map (fun s => x * f s)).sum = x * (l.map f).sum := by
    intro f x l
    induction l with
    | nil => simp
    | cons a l ih => rw [List.map_cons, List.map_cons, List.sum_cons, List.sum_cons, ih, Int.mul_add]
  have e3 : ∀ (f : Int → Int) (x : Int) (l : List Int), (l.map (fun s => x - f s)).sum = l.length * x - (l.map f).sum := by
    intro f x l
    have := map_add_sum (fun s => - f s) x l
    have h2 : (l.map (fun s => - f s)).sum = - (l.map f).sum := by
      have := e2 f (-1) l
      simp only [Int.neg_mul, Int.one_mul] at this
      exact this
    rw [h2] at this
    exact this
  rw [e1, e2, show (2 : Int) ^ 25 = 2 ^ (25 - b) * 2 ^ b by rw [← Int.pow_add]; congr 1; omega]
  congr 1
  rw [e3] at hs
  have e4 : (t : Int) * 2 ^ b = 2 * (((sortP C).length : Int) * 2 ^ b - 2 ^ b) := by
    rw [show (t : Int) = 2 * (((sortP C).length : Int) - 1) by omega, Int.mul_assoc, Int.sub_mul, Int.one_mul]
  omega
end
