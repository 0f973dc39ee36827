/-! the pure part: rounds of coins and packages, both ways -/
def coS (C O : List Int) : List vcT := O.map (fun o => cvF o.toNat (yat C o))
def paS (V : List vcT) : List vcT := (List.range (V.length / 2)).map (fun p => vaF (V.getD (2 * p) []) (V.getD (2 * p + 1) []))
def rwS (C : List Int) (V : List vcT) : List (Bool × vcT) := mgF ((sortP C).length + V.length / 2) (coS C (sortP C)) (paS V)
theorem coS_len (C O : List Int) : (coS C O).length = O.length := List.length_map ..
theorem paS_len (V : List vcT) : (paS V).length = V.length / 2 := by simp [paS]
theorem wv_cv (s : Nat) (w : Int) : wv (cvF s w) = w := by
  have := yat_last (uvF s) w
  rw [uv_len] at this
  exact this
theorem wv_va (x y : vcT) : wv (vaF x y) = wv x + wv y := vad_at (i := 26) (by omega)
theorem coS_get {C O : List Int} {k : Nat} (h : k < (coS C O).length) : (coS C O)[k] = cvF (O.getD k 0).toNat (yat C (O.getD k 0)) := by
  have h2 : k < O.length := by rwa [coS_len] at h
  rw [getD_get h2]
  simp [coS]
theorem paS_get {V : List vcT} {k : Nat} (h : k < (paS V).length) : (paS V)[k] = vaF (V.getD (2 * k) []) (V.getD (2 * k + 1) []) := by simp [paS]
theorem getDv {V : List vcT} {k : Nat} (h : k < V.length) : V.getD k [] = V[k] := by
  rw [List.getD_eq_getElem?_getD, List.getElem?_eq_getElem h]
  rfl
theorem pqN_co {C : List Int} {w : Int} {l : List Int} : ∀ r, r ≤ l.length → pqN (coS C l) w r = sRank C w l r
  | 0, _ => rfl
  | r + 1, hr => by
    have e : yat ((coS C l).getD r []) 26 = yat C (l.getD r 0) := by
      rw [getDv (by rw [coS_len]; omega), coS_get]
      exact wv_cv _ _
    unfold pqN sRank
    rw [e, pqN_co r (by omega)]
theorem pqI_co {C l : List Int} {p : Nat} : pqI (coS C l) (cvF p (yat C p)) = coS C (sIns C p l) := by
  have e : yat (cvF p (yat C p)) 26 = yat C p := wv_cv _ _
  unfold pqI sIns sh
  rw [e, coS_len, pqN_co _ (Nat.le_refl _)]
  simp [coS, List.map_take, List.map_drop]
theorem pkC_co {C : List Int} : ∀ (j s : Nat) (l : List Int), pkC C j s (coS C l) = coS C (sortF C j s l)
  | 0, _, _ => rfl
  | j + 1, s, l => by
    unfold pkC sortF
    by_cases h : 0 < yat C s
    · rw [if_pos h, if_pos h, pqI_co]
      exact pkC_co j (s + 1) _
    · rw [if_neg h, if_neg h]
      exact pkC_co j (s + 1) _
theorem coS_sd (C : List Int) : wsd (coS C (sortP C)) := by
  unfold coS wsd
  rw [List.pairwise_map]
  have := pw_sorted C
  unfold pw at this
  rw [List.pairwise_map] at this
  exact this.imp fun {a b} h => by
    show wv _ ≤ wv _
    rw [wv_cv, wv_cv]
    exact h
theorem paS_sd {V : List vcT} (h : wsd V) : wsd (paS V) := by
  refine List.pairwise_iff_getElem.mpr fun i j hi hj hij => ?_
  have hp := List.pairwise_iff_getElem.mp h
  rw [paS_get, paS_get, wv_va, wv_va]
  rw [paS_len] at hi hj
  rw [getDv (by omega), getDv (by omega), getDv (by omega), getDv (by omega)]
  have h1 := hp (2 * i) (2 * j) (by omega) (by omega) (by omega)
  have h2 := hp (2 * i + 1) (2 * j + 1) (by omega) (by omega) (by omega)
  omega
theorem pkP_mg {C : List Int} {V : List vcT} (hV : wsd V) : ∀ (j p : Nat), p + j = V.length / 2 → pkP V j (2 * p) ((mgF ((sortP C).length + p) (coS C (sortP C)) ((paS V).take p)).map (·.2)) = (mgF ((sortP C).length + (p + j)) (coS C (sortP C)) ((paS V).take (p + j))).map (·.2)
  | 0, p, _ => rfl
  | j + 1, p, h => by
    have hl := paS_len V
    have hp : p < (paS V).length := by omega
    have e : (paS V).take (p + 1) = (paS V).take p ++ [(paS V)[p]] := by
      rw [List.take_succ, List.getElem?_eq_getElem hp]
      rfl
    have hm := mg_more (q := (paS V)[p]) ((sortP C).length + p) (coS C (sortP C)) ((paS V).take p) (by rw [coS_len, List.length_take]; omega) (coS_sd C) (fun x hx => by
      obtain ⟨i, hi, rfl⟩ := List.getElem_of_mem hx
      rw [List.getElem_take]
      rw [List.length_take] at hi
      exact List.pairwise_iff_getElem.mp (paS_sd hV) i p (by omega) hp (by omega))
    unfold pkP
    rw [← paS_get hp, ← hm, ← e]
    have ih := pkP_mg (C := C) hV j (p + 1) (by omega)
    rw [show 2 * p + 2 = 2 * (p + 1) by omega, show p + (j + 1) = p + 1 + j by omega]
    exact ih
theorem pkR_mg {C : List Int} (hC : C.length = 26) {V : List vcT} (hV : wsd V) : pkR C V = (rwS C V).map (·.2) := by
  have h1 := pkC_co (C := C) 26 0 []
  have e0 : coS C [] = [] := rfl
  have e1 : sortF C 26 0 [] = sortP C := by unfold sortP; rw [hC]
  rw [e0, e1] at h1
  have h2 := pkP_mg (C := C) hV (V.length / 2) 0 (by omega)
  rw [Nat.mul_zero, List.take_zero, Nat.add_zero, Nat.zero_add, mg_nil _ _ (coS_len _ _), List.take_of_length_le (by rw [paS_len]; exact Nat.le_refl _)] at h2
  unfold pkR rwS
  rw [h1, h2]
theorem pkN_sd {C : List Int} (hC : C.length = 26) : ∀ b : Nat, wsd (pkN C b)
  | 0 => List.Pairwise.nil
  | b + 1 => by
    have ih := pkN_sd hC b
    show wsd (pkR C (pkN C b))
    rw [pkR_mg hC ih]
    exact mg_sd _ _ _ (coS_sd C) (paS_sd ih)
theorem pkN_mg {C : List Int} (hC : C.length = 26) (b : Nat) : pkN C (b + 1) = (rwS C (pkN C b)).map (·.2) := pkR_mg hC (pkN_sd hC b)
theorem pkN_pos {C : List Int} (hC : C.length = 26) : ∀ b : Nat, ∀ v ∈ pkN C b, 1 ≤ wv v
  | 0, v, hv => by cases hv
  | b + 1, v, hv => by
    have ih := pkN_pos hC b
    rw [pkN_mg hC b] at hv
    obtain ⟨x, hx, rfl⟩ := List.mem_map.mp hv
    rcases mg_mem _ _ _ x hx with h | h
    · obtain ⟨k, hk, e⟩ := List.getElem_of_mem h
      have hk2 : k < (sortP C).length := by rwa [coS_len] at hk
      have hm := ((sortP_ok C).2 ((sortP C).getD k 0)).mp (by rw [getD_get hk2]; exact List.getElem_mem _)
      rw [← e, coS_get, wv_cv]
      omega
    · obtain ⟨k, hk, e⟩ := List.getElem_of_mem h
      have hk2 : k < (pkN C b).length / 2 := by rwa [paS_len] at hk
      rw [← e, paS_get, wv_va, getDv (by omega), getDv (by omega)]
      have h1 := ih _ (List.getElem_mem (show 2 * k < (pkN C b).length by omega))
      have h2 := ih _ (List.getElem_mem (show 2 * k + 1 < (pkN C b).length by omega))
      omega
/-- the class's row is the same -/
theorem drop_get {α : Type} {l : List α} {k : Nat} (h : k < l.length) : l.drop k = l[k] :: l.drop (k + 1) := List.drop_eq_getElem_cons h
theorem pkF_wv {V : List vcT} {p : Nat} (hp : p < (paS V).length) : pkF (V.map wv) p = wv (paS V)[p] := by
  have hl := paS_len V
  have key : ∀ k : Nat, k < V.length → yat (V.map wv) k = wv (V.getD k []) := fun k hk => by
    rw [yat_n, getD_get (by rw [List.length_map]; exact hk), List.getElem_map, getDv hk]
  unfold pkF
  rw [show 2 * (p : Int) = ((2 * p : Nat) : Int) by omega, show ((2 * p : Nat) : Int) + 1 = ((2 * p + 1 : Nat) : Int) by omega, key _ (by omega), key _ (by omega), paS_get, wv_va]
theorem lr_mg {b : Nat} {C O : List Int} {V : List vcT} : ∀ (j coin pack : Nat) (R K : List Int), coin ≤ O.length → pack ≤ V.length / 2 → (O.length - coin) + (V.length / 2 - pack) = j → (lrF b C O (V.map wv) j coin pack R K).1 = R ++ (mgF j ((coS C O).drop coin) ((paS V).drop pack)).map (fun x => wv x.2) ∧ (lrF b C O (V.map wv) j coin pack R K).2.length = K.length ∧ (∀ i : Nat, i < b + R.length + 1 ∨ b + R.length + j < i → yat (lrF b C O (V.map wv) j coin pack R K).2 i = yat K i) ∧ ∀ t : Nat, 1 ≤ t → t ≤ j → b + R.length + t < K.length → yat (lrF b C O (V.map wv) j coin pack R K).2 ((b + R.length + t : Nat) : Int) = ((coin + cntT ((mgF j ((coS C O).drop coin) ((paS V).drop pack)).take t) : Nat) : Int)
  | 0, coin, pack, R, K, _, _, _ => by
    unfold lrF mgF
    exact ⟨by simp, rfl, fun _ _ => rfl, fun t h1 h2 _ => by omega⟩
  | j + 1, coin, pack, R, K, hc, hp, hj => by
    have hcl := coS_len C O
    have hpl := paS_len V
    have ei : ((b : Int) + (R.length + 1 : Nat)) = ((b + R.length + 1 : Nat) : Int) := by omega
    have hA : (V.map wv).length = V.length := List.length_map ..
    -- a coin
    have coinStep : ∀ (hco : coin < O.length), lrB C O (V.map wv) coin pack → mgF (j + 1) ((coS C O).drop coin) ((paS V).drop pack) = (true, (coS C O)[coin]'(by omega)) :: mgF j ((coS C O).drop (coin + 1)) ((paS V).drop pack) → (lrF b C O (V.map wv) (j + 1) coin pack R K).1 = R ++ (mgF (j + 1) ((coS C O).drop coin) ((paS V).drop pack)).map (fun x => wv x.2) ∧ (lrF b C O (V.map wv) (j + 1) coin pack R K).2.length = K.length ∧ (∀ i : Nat, i < b + R.length + 1 ∨ b + R.length + (j + 1) < i → yat (lrF b C O (V.map wv) (j + 1) coin pack R K).2 i = yat K i) ∧ ∀ t : Nat, 1 ≤ t → t ≤ j + 1 → b + R.length + t < K.length → yat (lrF b C O (V.map wv) (j + 1) coin pack R K).2 ((b + R.length + t : Nat) : Int) = ((coin + cntT ((mgF (j + 1) ((coS C O).drop coin) ((paS V).drop pack)).take t) : Nat) : Int) := by
      intro hco hb hm
      have ih := lr_mg (b := b) (C := C) (O := O) (V := V) j (coin + 1) pack (R ++ [yat C (yat O coin)]) (yput K ((b : Int) + (R.length + 1 : Nat)) ((coin + 1 : Nat) : Int)) (by omega) hp (by omega)
      have ew : wv ((coS C O)[coin]'(by omega)) = yat C (yat O coin) := by
        rw [coS_get, wv_cv, yat_n]
      unfold lrF
      rw [if_pos hb, hm]
      rw [yput_len] at ih
      have hRl : (R ++ [yat C (yat O coin)]).length = R.length + 1 := by simp
      rw [hRl] at ih
      obtain ⟨i1, i2, i3, i4⟩ := ih
      refine ⟨?_, i2, fun i hi => ?_, fun t h1 h2 h3 => ?_⟩
      · rw [i1, List.map_cons, ew, List.append_assoc]
        rfl
      · rw [i3 i (by omega), yat_ne (by omega)]
      · by_cases ht : t = 1
        · subst ht
          rw [i3 _ (by omega), ei, show b + R.length + 1 = b + R.length + 1 from rfl, yat_pu (by omega)]
          simp [cntT]
        · have := i4 (t - 1) (by omega) (by omega) (by omega)
          rw [show b + (R.length + 1) + (t - 1) = b + R.length + t by omega] at this
          rw [this, show t = (t - 1) + 1 by omega, List.take_succ_cons]
          simp [cntT]
          omega
    have packStep : ∀ (hpo : pack < V.length / 2), ¬ lrB C O (V.map wv) coin pack → mgF (j + 1) ((coS C O).drop coin) ((paS V).drop pack) = (false, (paS V)[pack]'(by omega)) :: mgF j ((coS C O).drop coin) ((paS V).drop (pack + 1)) → (lrF b C O (V.map wv) (j + 1) coin pack R K).1 = R ++ (mgF (j + 1) ((coS C O).drop coin) ((paS V).drop pack)).map (fun x => wv x.2) ∧ (lrF b C O (V.map wv) (j + 1) coin pack R K).2.length = K.length ∧ (∀ i : Nat, i < b + R.length + 1 ∨ b + R.length + (j + 1) < i → yat (lrF b C O (V.map wv) (j + 1) coin pack R K).2 i = yat K i) ∧ ∀ t : Nat, 1 ≤ t → t ≤ j + 1 → b + R.length + t < K.length → yat (lrF b C O (V.map wv) (j + 1) coin pack R K).2 ((b + R.length + t : Nat) : Int) = ((coin + cntT ((mgF (j + 1) ((coS C O).drop coin) ((paS V).drop pack)).take t) : Nat) : Int) := by
      intro hpo hb hm
      have ih := lr_mg (b := b) (C := C) (O := O) (V := V) j coin (pack + 1) (R ++ [pkF (V.map wv) pack]) (yput K ((b : Int) + (R.length + 1 : Nat)) (coin : Nat)) hc (by omega) (by omega)
      have ew : wv ((paS V)[pack]'(by omega)) = pkF (V.map wv) pack := (pkF_wv (by omega)).symm
      unfold lrF
      rw [if_neg hb, hm]
      rw [yput_len] at ih
      have hRl : (R ++ [pkF (V.map wv) pack]).length = R.length + 1 := by simp
      rw [hRl] at ih
      obtain ⟨i1, i2, i3, i4⟩ := ih
      refine ⟨?_, i2, fun i hi => ?_, fun t h1 h2 h3 => ?_⟩
      · rw [i1, List.map_cons, ew, List.append_assoc]
        rfl
      · rw [i3 i (by omega), yat_ne (by omega)]
      · by_cases ht : t = 1
        · subst ht
          rw [i3 _ (by omega), ei, show b + R.length + 1 = b + R.length + 1 from rfl, yat_pu (by omega)]
          simp [cntT]
        · have := i4 (t - 1) (by omega) (by omega) (by omega)
          rw [show b + (R.length + 1) + (t - 1) = b + R.length + t by omega] at this
          rw [this, show t = (t - 1) + 1 by omega, List.take_succ_cons]
          simp [cntT]
    by_cases hco : coin < O.length
    · by_cases hpo : pack < V.length / 2
      · have hcc := mg_cc (j := j) (c := (coS C O)[coin]'(by omega)) (p := (paS V)[pack]'(by omega)) (cs := (coS C O).drop (coin + 1)) (ps := (paS V).drop (pack + 1))
        rw [← drop_get (l := coS C O) (by omega), ← drop_get (l := paS V) (by omega)] at hcc
        have ew : wv ((coS C O)[coin]'(by omega)) = yat C (yat O coin) := by
          rw [coS_get, wv_cv, yat_n]
        have ep : wv ((paS V)[pack]'(by omega)) = pkF (V.map wv) pack := (pkF_wv (by omega)).symm
        by_cases hle : yat C (yat O coin) ≤ pkF (V.map wv) pack
        · rw [if_pos (by rw [ew, ep]; exact hle)] at hcc
          exact coinStep hco (.inr ⟨hco, hle⟩) hcc
        · rw [if_neg (by rw [ew, ep]; exact hle)] at hcc
          exact packStep hpo (fun h => h.elim (fun h => by rw [hA] at h; omega) (fun h => hle h.2)) hcc
      · refine coinStep hco (.inl (by rw [hA]; omega)) ?_
        rw [List.drop_eq_nil_of_le (show (paS V).length ≤ pack by omega), drop_get (l := coS C O) (by omega)]
        rfl
    · refine packStep (by omega) (fun h => h.elim (fun h => by rw [hA] at h; omega) (fun h => hco h.1)) ?_
      rw [List.drop_eq_nil_of_le (show (coS C O).length ≤ coin by omega), drop_get (l := paS V) (by omega)]
      rfl
