/-! the reference's packages: a round -/
def uvF (s : Nat) : List Int := (List.range 26).map (fun i => if i = s then 1 else 0)
def cvF (s : Nat) (w : Int) : vcT := uvF s ++ [w]
def vaF (x y : vcT) : vcT := (List.range 27).map (fun (i : Nat) => yat x i + yat y i)
theorem uv_len (s : Nat) : (uvF s).length = 26 := by unfold uvF; simp
theorem uv_at {s i : Nat} (hi : i < 26) : yat (uvF s) i = if i = s then 1 else 0 := by
  unfold uvF
  rw [yat_n, List.getD_eq_getElem?_getD, List.getElem?_map, List.getElem?_range hi]
  rfl
theorem vad_len (x y : vcT) : (vaF x y).length = 27 := by unfold vaF; simp
theorem vad_at {x y : vcT} {i : Nat} (hi : i < 27) : yat (vaF x y) i = yat x i + yat y i := by
  unfold vaF
  rw [yat_n, List.getD_eq_getElem?_getD, List.getElem?_map, List.getElem?_range hi]
  rfl
/-- a row of packages whose numbers are below a bound -/
def vcO (M : Int) (v : vcT) : Prop := v.length = 27 ∧ ∀ y ∈ v, 0 ≤ y ∧ y ≤ M
theorem cv_O {s : Nat} {w M : Int} (hw : 0 ≤ w ∧ w ≤ M) (hM : 1 ≤ M) : vcO M (cvF s w) := by
  refine ⟨by unfold cvF; simp [uv_len], fun y hy => ?_⟩
  unfold cvF at hy
  rcases List.mem_append.mp hy with hy | hy
  · obtain ⟨i, _, rfl⟩ := List.mem_map.mp hy
    split <;> omega
  · rw [List.mem_singleton.mp hy]
    exact hw
theorem vad_O {x y : vcT} {M : Int} (hx : vcO M x) (hy : vcO M y) (h0 : 0 ≤ M) : vcO (2 * M) (vaF x y) := by
  refine ⟨vad_len x y, fun z hz => ?_⟩
  obtain ⟨i, _, rfl⟩ := List.mem_map.mp hz
  have h1 := yat_all (Q := fun x => 0 ≤ x ∧ x ≤ M) hx.2 (by omega) i
  have h2 := yat_all (Q := fun x => 0 ≤ x ∧ x ≤ M) hy.2 (by omega) i
  omega
theorem vc_up {M M' : Int} {v : vcT} (h : vcO M v) (hm : M ≤ M') : vcO M' v := ⟨h.1, fun y hy => ⟨(h.2 y hy).1, Int.le_trans (h.2 y hy).2 hm⟩⟩
/-- coins of all signs, put in their places -/
def pkC (ws : List Int) : Nat → Nat → List vcT → List vcT
  | 0, _, R => R
  | j + 1, s, R => pkC ws j (s + 1) (if 0 < yat ws s then pqI R (cvF s (yat ws s)) else R)
/-- packages of the row before -/
def pkP (V : List vcT) : Nat → Nat → List vcT → List vcT
  | 0, _, R => R
  | j + 1, k, R => pkP V j (k + 2) (pqI R (vaF (V.getD k []) (V.getD (k + 1) [])))
def pkR (ws : List Int) (V : List vcT) : List vcT := pkP V (V.length / 2) 0 (pkC ws 26 0 [])
def pkN (ws : List Int) : Nat → List vcT
  | 0 => []
  | b + 1 => pkR ws (pkN ws b)
theorem pkP_len (V : List vcT) : ∀ (j k : Nat) (R : List vcT), (pkP V j k R).length = R.length + j
  | 0, _, _ => rfl
  | j + 1, k, R => by
    unfold pkP
    rw [pkP_len V j, pqI_len]
    omega
theorem pkC_len (ws : List Int) : ∀ (j s : Nat) (R : List vcT), s + j = ws.length → ((pkC ws j s R).length : Int) = R.length + abF (ws.drop s)
  | 0, s, R, hs => by
    rw [drop_end (by omega)]
    unfold pkC abF
    omega
  | j + 1, s, R, hs => by
    unfold pkC
    rw [pkC_len ws j (s + 1) _ (by omega), drop_yat (xs := ws) (show s < ws.length by omega), abF]
    split
    · rw [pqI_len]
      omega
    · omega
theorem pkC_all {Q : vcT → Prop} {ws : List Int} (hQ : ∀ s : Nat, 0 < yat ws s → Q (cvF s (yat ws s))) : ∀ (j s : Nat) (R : List vcT), (∀ x ∈ R, Q x) → ∀ x ∈ pkC ws j s R, Q x
  | 0, _, _, h => h
  | j + 1, s, R, h => by
    unfold pkC
    refine pkC_all hQ j (s + 1) _ ?_
    split
    · exact pqI_all h (hQ s (by assumption))
    · exact h
theorem pkP_all {Q Q' : vcT → Prop} {V : List vcT} (hV : ∀ x ∈ V, Q' x) (hQ : ∀ x y, Q' x → Q' y → Q (vaF x y)) : ∀ (j k : Nat) (R : List vcT), k + 2 * j ≤ V.length → (∀ x ∈ R, Q x) → ∀ x ∈ pkP V j k R, Q x
  | 0, _, _, _, h => h
  | j + 1, k, R, hk, h => by
    have gm : ∀ i, i < V.length → V.getD i [] ∈ V := fun i hi => by
      rw [List.getD_eq_getElem?_getD, List.getElem?_eq_getElem hi]
      exact List.getElem_mem hi
    unfold pkP
    exact pkP_all hV hQ j (k + 2) _ (by omega) (pqI_all h (hQ _ _ (hV _ (gm k (by omega))) (hV _ (gm (k + 1) (by omega)))))
theorem pkN_O {ws : List Int} {M : Int} (hM : 1 ≤ M) (hw : ∀ x ∈ ws, x ≤ M) : ∀ b : Nat, ∀ v ∈ pkN ws b, vcO (M * 2 ^ b) v
  | 0 => fun v hv => by cases hv
  | b + 1 => by
    have h2 : (0 : Int) < 2 ^ b := Int.pow_pos (by decide)
    have h3 : (2 : Int) ^ (b + 1) = 2 ^ b * 2 := Int.pow_succ ..
    have h4 : M * 2 ^ (b + 1) = 2 * (M * 2 ^ b) := by rw [h3, ← Int.mul_assoc, Int.mul_comm]
    have h5 : M ≤ M * 2 ^ b := by
      have := Int.mul_le_mul_of_nonneg_left (show (1 : Int) ≤ 2 ^ b by omega) (show 0 ≤ M by omega)
      omega
    rw [h4]
    unfold pkN pkR
    refine pkP_all (pkN_O hM hw b) (fun x y hx hy => vad_O hx hy (by omega)) _ _ _ (by omega) ?_
    refine pkC_all (fun s hs => cv_O ⟨by omega, ?_⟩ (by omega)) _ _ _ (fun x hx => (by cases hx))
    have := yat_all (Q := fun x => x ≤ M) hw (by omega) (s : Int)
    omega
theorem abF_pos {ws : List Int} (hl : ws.length ≤ 26) : abF ws ≤ 26 := by
  have := abF_rng ws
  omega
theorem pkN_len {ws : List Int} (hl : ws.length = 26) (b : Nat) : ((pkN ws (b + 1)).length : Int) = abF ws + ((pkN ws b).length / 2 : Nat) := by
  show ((pkR ws (pkN ws b)).length : Int) = _
  unfold pkR
  rw [pkP_len]
  have := pkC_len ws 26 0 [] (by omega)
  rw [List.drop_zero] at this
  rw [List.length_nil] at this
  omega
theorem pkN_le {ws : List Int} (hl : ws.length = 26) : ∀ b : Nat, (pkN ws b).length ≤ 51
  | 0 => by unfold pkN; simp
  | b + 1 => by
    have h1 := pkN_len hl b
    have h2 := pkN_le hl b
    have h3 := abF_rng ws
    omega
theorem pkN_ge {ws : List Int} (hl : ws.length = 26) : ∀ b : Nat, 2 * abF ws - (pkN ws (b + 1)).length ≤ 1 + (abF ws - 1) / 2 ^ b
  | 0 => by
    have h1 := pkN_len hl 0
    have h0 : (pkN ws 0).length = 0 := rfl
    have h3 := abF_rng ws
    have e : (abF ws - 1) / 2 ^ 0 = abF ws - 1 := by rw [Int.pow_zero, Int.ediv_one]
    rw [e]
    omega
  | b + 1 => by
    have h1 := pkN_len hl (b + 1)
    have h2 := pkN_ge hl b
    have h3 : (abF ws - 1) / 2 ^ (b + 1) = (abF ws - 1) / 2 ^ b / 2 := by
      rw [Int.pow_succ, Int.ediv_ediv_of_nonneg (Int.le_of_lt (Int.pow_pos (by decide)))]
    rw [h3]
    omega
