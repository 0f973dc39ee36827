/-! the pure part: blocks -/
theorem pw_sorted (C : List Int) : (pw C (sortP C)).Pairwise (· ≤ ·) := by
  unfold pw
  rw [List.pairwise_map]
  refine (sortP_ok C).1.imp fun {a b} h => ?_
  unfold plt at h
  omega
theorem jw_perm {C D : List Int} (h : (pw C (posP C)).Perm (pw D (posP D))) : jwF C = jwF D := by
  have h1 : (pw C (sortP C)).Perm (pw D (sortP D)) := (((sortP_posP C).map _).trans h).trans ((sortP_posP D).map _).symm
  have h2 : pw C (sortP C) = pw D (sortP D) := h1.eq_of_pairwise (fun a b _ _ h3 h4 => Int.le_antisymm h3 h4) (pw_sorted C) (pw_sorted D)
  have h3 : (sortP C).length = (sortP D).length := by
    have := congrArg List.length h2
    rwa [pw_len, pw_len] at this
  unfold jwF jlQ
  rw [jlO_0, jlO_0, h2, h3]
theorem posF_pw (C : List Int) : ∀ (j p : Nat) (l : List Int), p + j = C.length → pw C (posF C j p l) = pw C l ++ (C.drop p).filter (fun x => decide (0 < x))
  | 0, p, l, h => by
    rw [List.drop_eq_nil_of_le (by omega)]
    simp [posF]
  | j + 1, p, l, h => by
    unfold posF
    rw [posF_pw C j (p + 1) _ (by omega), drop_yat (xs := C) (show p < C.length by omega), List.filter_cons]
    by_cases h1 : 0 < yat C p
    · rw [if_pos h1, if_pos (by simpa using h1)]
      unfold pw
      rw [List.map_append, List.append_assoc]
      rfl
    · rw [if_neg h1, if_neg (by simpa using h1)]
theorem posP_pw (C : List Int) : pw C (posP C) = C.filter (fun x => decide (0 < x)) := by
  have := posF_pw C C.length 0 [] (by omega)
  rw [List.drop_zero] at this
  exact this
/-- a block as a number -/
def bnG (l : List Int) : Int := l.foldr (fun x v => v * 27 + x + 1) 0
theorem bnG_nn : ∀ l : List Int, (∀ x ∈ l, 0 ≤ x ∧ x < 26) → 0 ≤ bnG l
  | [], _ => Int.le_refl _
  | x :: t, h => by
    have h1 := h x (.head _)
    have h2 := bnG_nn t (fun y hy => h y (.tail _ hy))
    show 0 ≤ bnG t * 27 + x + 1
    omega
theorem bnG_inj : ∀ (l k : List Int), (∀ x ∈ l, 0 ≤ x ∧ x < 26) → (∀ x ∈ k, 0 ≤ x ∧ x < 26) → bnG l = bnG k → l = k
  | [], [], _, _, _ => rfl
  | [], y :: k, _, hk, h => by
    have h1 := hk y (.head _)
    have h2 := bnG_nn k (fun z hz => hk z (.tail _ hz))
    have h3 : (0 : Int) = bnG k * 27 + y + 1 := h
    omega
  | x :: l, [], hl, _, h => by
    have h1 := hl x (.head _)
    have h2 := bnG_nn l (fun z hz => hl z (.tail _ hz))
    have h3 : bnG l * 27 + x + 1 = (0 : Int) := h
    omega
  | x :: l, y :: k, hl, hk, h => by
    have h1 := hl x (.head _)
    have h2 := hk y (.head _)
    have h3 : bnG l * 27 + x + 1 = bnG k * 27 + y + 1 := h
    rw [show x = y by omega, bnG_inj l k (fun z hz => hl z (.tail _ hz)) (fun z hz => hk z (.tail _ hz)) (by omega)]
theorem bkF_fold (T : List Int) : ∀ (j p : Nat) (v : Int), p + j ≤ T.length → bkF T j p v = ((T.drop p).take j).foldl (fun v x => v * 27 + x + 1) v
  | 0, p, v, _ => by simp [bkF]
  | j + 1, p, v, h => by
    unfold bkF
    rw [bkF_fold T j (p + 1) _ (by omega), drop_yat (xs := T) (show p < T.length by omega), List.take_succ_cons, List.foldl_cons]
theorem bkA_bn {T : List Int} {f s : Nat} (hf : f ≤ T.length) : bkA T f s = bnG (bkT T f s).reverse := by
  have e : bkT T f s = (T.drop f).take (bkE T f s) := by
    unfold bkT bkE
    split
    · rfl
    · rw [List.take_of_length_le (by rw [List.length_drop]; omega), List.take_of_length_le (by rw [List.length_drop]; omega)]
  unfold bkA
  rw [bkF_fold T _ f 0 (by unfold bkE; split <;> omega), List.foldl_eq_foldr_reverse, e]
  rfl
theorem bkA_inj {T : List Int} (hT : ∀ x ∈ T, 0 ≤ x ∧ x < 26) {f g s : Nat} (hf : f ≤ T.length) (hg : g ≤ T.length) : bkA T f s = bkA T g s ↔ bkT T f s = bkT T g s := by
  rw [bkA_bn hf, bkA_bn hg]
  have hm : ∀ a : Nat, ∀ x ∈ (bkT T a s).reverse, 0 ≤ x ∧ x < 26 := fun a x hx => hT x (List.mem_of_mem_drop (List.mem_of_mem_take (List.mem_reverse.mp hx)))
  constructor
  · intro h
    exact List.reverse_inj.mp (bnG_inj _ _ (hm f) (hm g) h)
  · intro h
    rw [h]
theorem plOf_no {v : Int} : ∀ {F : List Int} {k : Nat}, v ∉ F → plOf v F k = -1
  | [], _, _ => rfl
  | x :: t, k, h => by
    unfold plOf
    rw [if_neg (fun hx => h (by rw [hx]; exact .head _)), plOf_no (fun h2 => h (.tail _ h2))]
/-- the first place with a block -/
theorem bfM_ok (T : List Int) {s at_ : Nat} (hs : 1 ≤ s) : ∀ (m f : Nat), f + s * m = at_ → (∃ k, k ≤ m ∧ bfM T s at_ m f = f + s * k) ∧ bkT T (bfM T s at_ m f) s = bkT T at_ s ∧ ∀ k : Nat, f + s * k < bfM T s at_ m f → bkT T (f + s * k) s ≠ bkT T at_ s
  | 0, f, h => by
    rw [Nat.mul_zero, Nat.add_zero] at h
    refine ⟨⟨0, Nat.le_refl _, rfl⟩, by rw [← h]; rfl, fun k hk => ?_⟩
    have : bfM T s at_ 0 f = f := rfl
    omega
  | m + 1, f, h => by
    have hm : s * (m + 1) = s * m + s := Nat.mul_succ _ _
    unfold bfM
    by_cases hb : bkT T f s = bkT T at_ s
    · rw [if_pos hb]
      exact ⟨⟨0, Nat.zero_le _, rfl⟩, hb, fun k hk => by omega⟩
    · rw [if_neg hb]
      obtain ⟨⟨k0, h1, h2⟩, h3, h4⟩ := bfM_ok T (at_ := at_) hs m (f + s) (by omega)
      refine ⟨⟨k0 + 1, by omega, by rw [h2, Nat.mul_succ]; omega⟩, h3, fun k hk => ?_⟩
      by_cases hk0 : k = 0
      · rw [hk0, Nat.mul_zero, Nat.add_zero]
        exact hb
      · obtain ⟨k', rfl⟩ : ∃ k', k = k' + 1 := ⟨k - 1, by omega⟩
        have e : s * (k' + 1) = s * k' + s := Nat.mul_succ _ _
        have := h4 k' (by omega)
        rw [show f + s * (k' + 1) = f + s + s * k' by omega]
        exact this
/-- class and reference behind some blocks -/
def bkI (T : List Int) (s i : Nat) (B K W : List Int) : Prop := ∃ F : List Nat, F.Pairwise (· < ·) ∧ (∀ f ∈ F, ∃ k, k < i ∧ f = s * k) ∧ B = F.map (fun f => bkA T f s) ∧ K = F.map (fun (f : Nat) => yat W f) ∧ W.length = 120 ∧ (∀ p : Nat, 0 ≤ yat W p ∧ (0 < yat W p ↔ p ∈ F)) ∧ (∀ k, k < i → ∃ f, f ∈ F ∧ f ≤ s * k ∧ bkT T f s = bkT T (s * k) s) ∧ (∀ f ∈ F, ∀ g ∈ F, bkT T f s = bkT T g s → f = g)
theorem bkI_step {T : List Int} (hT : ∀ x ∈ T, 0 ≤ x ∧ x < 26) (hl : T.length ≤ 120) {s i : Nat} (hs : 1 ≤ s) (hi : s * i < T.length) {B K W : List Int} (h : bkI T s i B K W) : bkI T s (i + 1) (cbB B (bkA T (s * i) s)) (cbK B K (bkA T (s * i) s)) (yput W (bfM T s (s * i) i 0) (yat W (bfM T s (s * i) i 0) + 1)) := by
  obtain ⟨F, f1, f2, f3, f4, f5, f6, f7, f8⟩ := h
  have hlt : ∀ f ∈ F, f < s * i := fun f hf => by
    obtain ⟨k, hk, rfl⟩ := f2 f hf
    exact Nat.mul_lt_mul_of_pos_left hk hs
  obtain ⟨⟨k0, g1, g2⟩, g3, g4⟩ := bfM_ok T (at_ := s * i) hs i 0 (by omega)
  rw [Nat.zero_add] at g2
  obtain ⟨r, hr⟩ : ∃ r, r = bfM T s (s * i) i 0 := ⟨_, rfl⟩
  rw [← hr] at g2 g3 g4 ⊢
  by_cases hc : ∃ g, g ∈ F ∧ bkT T g s = bkT T (s * i) s
  · obtain ⟨g, hg, hgb⟩ := hc
    have hrg : r = g := by
      obtain ⟨kg, hkg, hgk⟩ := f2 g hg
      have h1 : r ≤ g := by
        refine Nat.not_lt.mp fun h2 => ?_
        have := g4 kg (by omega)
        rw [Nat.zero_add, ← hgk] at this
        exact this hgb
      have h2 := hlt g hg
      have h3 : k0 < i := by
        refine Nat.not_le.mp fun h4 => ?_
        rw [show k0 = i by omega] at g2
        omega
      obtain ⟨f, hf, hf1, hf2⟩ := f7 k0 h3
      rw [← g2] at hf1 hf2
      have h5 := f8 f hf g hg (by rw [hf2, g3, hgb])
      omega
    have hx : bkA T (s * i) s = bkA T g s := ((bkA_inj hT (by have := hlt g hg; omega) (by omega)).mpr hgb).symm
    have hxB : bkA T g s ∈ B := by
      rw [f3]
      exact List.mem_map.mpr ⟨g, hg, rfl⟩
    have hp1 := plOf_rng (k := 0) hxB
    have hp2 := plOf_at (k := 0) hxB
    rw [show plOf (bkA T g s) B 0 - ((0 : Nat) : Int) = plOf (bkA T g s) B 0 by omega] at hp2
    obtain ⟨m, hm⟩ := Int.eq_ofNat_of_zero_le (show 0 ≤ plOf (bkA T g s) B 0 by omega)
    have hBl : B.length = F.length := by rw [f3, List.length_map]
    have hmF : m < F.length := by omega
    have hFm : F[m] = g := by
      have h1 : yat B m = bkA T F[m] s := by
        rw [yat_n, getD_get (by omega)]
        simp [f3]
      rw [hm, h1] at hp2
      have h2 := hlt F[m] (List.getElem_mem hmF)
      have h3 := hlt g hg
      exact f8 _ (List.getElem_mem hmF) _ hg ((bkA_inj hT (by omega) (by omega)).mp hp2)
    have hg120 : g < W.length := by have := hlt g hg; omega
    unfold cbB cbK
    rw [hx, hm, if_neg (by omega), if_neg (by omega), hrg]
    have hw := (f6 g).2.mpr hg
    refine ⟨F, f1, fun f hf => by obtain ⟨k, hk, e⟩ := f2 f hf; exact ⟨k, by omega, e⟩, f3, ?_, by rw [yput_len]; exact f5, fun p => ?_, fun k hk => ?_, f8⟩
    · rw [yput_n]
      refine List.ext_getElem (by simp [f4]) fun k h1 h2 => ?_
      have hkF : k < F.length := by simpa using h2
      rw [List.getElem_set, List.getElem_map]
      have hkm : yat K m = yat W g := by
        rw [yat_n, getD_get (by rw [f4, List.length_map]; exact hmF)]
        simp [f4, hFm]
      by_cases hkm2 : m = k
      · subst hkm2
        rw [if_pos rfl, hFm, yat_pu (by omega), hkm]
      · rw [if_neg hkm2, yat_ne (fun h3 => ?_)]
        · simp [f4]
        · have h4 : F[k] = F[m] := by omega
          have hpw := List.pairwise_iff_getElem.mp f1
          rcases Nat.lt_or_gt_of_ne hkm2 with h5 | h5
          · have := hpw m k hmF hkF h5
            omega
          · have := hpw k m hkF hmF h5
            omega
    · rw [yat_pn hg120]
      have := f6 p
      split
      · rename_i h1
        rw [h1]
        exact ⟨by omega, by simp only [hg, iff_true]; omega⟩
      · exact this
    · by_cases hki : k = i
      · rw [hki]
        exact ⟨g, hg, by have := hlt g hg; omega, hgb⟩
      · exact f7 k (by omega)
  · have hra : r = s * i := by
      by_cases h3 : k0 < i
      · obtain ⟨f, hf, hf1, hf2⟩ := f7 k0 h3
        rw [← g2, g3] at hf2
        exact absurd ⟨f, hf, hf2⟩ hc
      · rw [g2, show k0 = i by omega]
    have hxB : bkA T (s * i) s ∉ B := by
      rw [f3]
      intro h1
      obtain ⟨f, hf, e⟩ := List.mem_map.mp h1
      have := hlt f hf
      exact hc ⟨f, hf, (bkA_inj hT (by omega) (by omega)).mp e⟩
    have hnF : s * i ∉ F := fun h1 => by have := hlt _ h1; omega
    have hw0 : yat W ((s * i : Nat) : Int) = 0 := by
      have := f6 (s * i)
      have h2 : ¬ 0 < yat W ((s * i : Nat) : Int) := fun h3 => hnF (this.2.mp h3)
      omega
    unfold cbB cbK
    rw [plOf_no hxB, if_pos (by omega), if_pos (by omega), hra, hw0]
    have hil : s * i < W.length := by omega
    refine ⟨F ++ [s * i], List.pairwise_append.mpr ⟨f1, List.pairwise_singleton _ _, fun a ha b hb => by rw [List.mem_singleton.mp hb]; exact hlt a ha⟩, fun f hf => ?_, by rw [List.map_append, f3]; rfl, ?_, by rw [yput_len]; exact f5, fun p => ?_, fun k hk => ?_, fun f hf g hg hb => ?_⟩
    · rcases List.mem_append.mp hf with hf | hf
      · obtain ⟨k, hk, e⟩ := f2 f hf
        exact ⟨k, by omega, e⟩
      · exact ⟨i, by omega, List.mem_singleton.mp hf⟩
    · rw [List.map_append, f4]
      congr 1
      · refine List.map_congr_left fun f hf => ?_
        rw [yat_ne (fun h1 => hnF (by rw [show s * i = f by omega]; exact hf))]
      · show [1] = [yat (yput W ((s * i : Nat) : Int) (0 + 1)) ((s * i : Nat) : Int)]
        rw [yat_pu (by omega)]
        rfl
    · rw [yat_pn hil]
      have := f6 p
      rw [List.mem_append, List.mem_singleton]
      split
      · rename_i h1
        exact ⟨by omega, ⟨fun _ => .inr h1, fun _ => by omega⟩⟩
      · rename_i h1
        refine ⟨this.1, ?_⟩
        rw [this.2]
        simp [h1]
    · by_cases hki : k = i
      · rw [hki]
        exact ⟨s * i, List.mem_append_right _ (.head _), Nat.le_refl _, rfl⟩
      · obtain ⟨f, hf, h1, h2⟩ := f7 k (by omega)
        exact ⟨f, List.mem_append_left _ hf, h1, h2⟩
    · rcases List.mem_append.mp hf with hf | hf <;> rcases List.mem_append.mp hg with hg | hg
      · exact f8 f hf g hg hb
      · rw [List.mem_singleton.mp hg] at hb
        exact absurd ⟨f, hf, hb⟩ hc
      · rw [List.mem_singleton.mp hf] at hb
        exact absurd ⟨g, hg, hb.symm⟩ hc
      · rw [List.mem_singleton.mp hf, List.mem_singleton.mp hg]
theorem bb_bw {T : List Int} (hT : ∀ x ∈ T, 0 ≤ x ∧ x < 26) (hl : T.length ≤ 120) {s : Nat} (hs : 1 ≤ s) : ∀ (j i : Nat) (B K W : List Int), bkI T s i B K W → ∃ i', bkI T s i' (bbF T s j (s * i) B K).1 (bbF T s j (s * i) B K).2 (bwM T s j i W)
  | 0, i, B, K, W, h => ⟨i, h⟩
  | j + 1, i, B, K, W, h => by
    unfold bbF bwM
    by_cases hi : s * i < T.length
    · rw [if_pos hi, if_pos hi, show s * i + s = s * (i + 1) from (Nat.mul_succ _ _).symm]
      exact bb_bw hT hl hs j (i + 1) _ _ _ (bkI_step hT hl hs hi h)
    · rw [if_neg hi, if_neg hi]
      exact ⟨i, h⟩
theorem block_ok {T : List Int} (hT : ∀ x ∈ T, 0 ≤ x ∧ x < 26) (hl : T.length ≤ 120) {s : Nat} (hs : 1 ≤ s) : jwF (bbA T s) = loM (bwA T s) := by
  obtain ⟨i', F, f1, f2, f3, f4, f5, f6, f7, f8⟩ := bb_bw hT hl hs T.length 0 [] [] (List.replicate 120 0) ⟨[], List.Pairwise.nil, fun f hf => (by cases hf), rfl, rfl, List.length_replicate, fun p => by rw [yat_rep]; simp, fun k hk => by omega, fun f hf => (by cases hf)⟩
  rw [Nat.mul_zero] at f4
  have e1 : (bbF T s T.length 0 [] []).2 = bbA T s := rfl
  have e2 : bwM T s T.length 0 (List.replicate 120 0) = bwA T s := rfl
  rw [e2] at f4 f5 f6
  rw [e1] at f4
  have hnn : ∀ x ∈ bwA T s, 0 ≤ x := (bwM_nn (T := T) (s := s) hl T.length 0 (List.replicate 120 0) 0 (fun x hx => by rw [(List.mem_replicate.mp hx).2]; exact Int.le_refl _) List.length_replicate (by simp)).1
  rw [lo_jw hnn]
  refine jw_perm ?_
  have hK : pw (bbA T s) (posP (bbA T s)) = bbA T s := by
    rw [posP_pw, List.filter_eq_self]
    intro x hx
    rw [f4] at hx
    obtain ⟨f, hf, rfl⟩ := List.mem_map.mp hx
    exact decide_eq_true ((f6 f).2.mpr hf)
  have hW : posP (bwA T s) = F.map (fun (f : Nat) => (f : Int)) := by
    have hs1 : (F.map (fun (f : Nat) => (f : Int))).Pairwise (· < ·) := by
      rw [List.pairwise_map]
      exact f1.imp fun {a b} h => by omega
    refine (len_same (pw_nd (posP_ok _).1) (pw_nd hs1) fun x => ?_).eq_of_pairwise (le := (· ≤ ·)) (fun a b _ _ h3 h4 => Int.le_antisymm h3 h4) ((posP_ok _).1.imp fun {a b} h => Int.le_of_lt h) (hs1.imp fun {a b} h => Int.le_of_lt h)
    rw [(posP_ok _).2, List.mem_map]
    constructor
    · rintro ⟨h1, h2, h3⟩
      obtain ⟨p, rfl⟩ := Int.eq_ofNat_of_zero_le h1
      exact ⟨p, (f6 p).2.mp h3, rfl⟩
    · rintro ⟨p, hp, rfl⟩
      have h3 := (f6 p).2.mpr hp
      refine ⟨by omega, ?_, h3⟩
      refine Int.not_le.mp fun h4 => ?_
      rw [yat_out _ (.inr h4)] at h3
      omega
  rw [hK, hW]
  unfold pw
  rw [List.map_map]
  rw [f4]
  exact List.Perm.refl _
