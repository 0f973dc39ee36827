/-! the pure part: levels of a row are those of an ordered tree: each begins at a multiple of its share -/
abbrev shr (l : Int) : Int := 2 ^ (25 - l).toNat
def szL : List Int → Int
  | [] => 0
  | l :: L => shr l + szL L
def alP : Int → List Int → Prop
  | _, [] => True
  | a, l :: L => shr l ∣ a ∧ alP (a + shr l) L
theorem szL_app : ∀ (X Y : List Int), szL (X ++ Y) = szL X + szL Y
  | [], Y => by
    show szL Y = 0 + szL Y
    omega
  | x :: X, Y => by
    show shr x + szL (X ++ Y) = shr x + szL X + szL Y
    rw [szL_app X Y]
    omega
theorem alP_app : ∀ (X Y : List Int) (a : Int), alP a (X ++ Y) ↔ alP a X ∧ alP (a + szL X) Y
  | [], Y, a => by
    show alP a Y ↔ True ∧ alP (a + 0) Y
    rw [Int.add_zero, true_and]
  | x :: X, Y, a => by
    show shr x ∣ a ∧ alP (a + shr x) (X ++ Y) ↔ (shr x ∣ a ∧ alP (a + shr x) X) ∧ alP (a + (shr x + szL X)) Y
    rw [alP_app X Y, Int.add_assoc, and_assoc]
theorem shr_dvd {l b : Int} (h : l ≤ b) : shr b ∣ shr l := ⟨2 ^ ((25 - l).toNat - (25 - b).toNat), by
  unfold shr
  rw [← Int.pow_add]
  congr 1
  omega⟩
theorem shr_two {l : Int} (h : l + 1 ≤ 25) : shr l = shr (l + 1) + shr (l + 1) := by
  unfold shr
  rw [show (25 - l).toNat = (25 - (l + 1)).toNat + 1 by omega, Int.pow_succ]
  omega
theorem al_shift {l : Int} : ∀ (X : List Int) (a : Int), (∀ b ∈ X, l ≤ b) → alP (a + shr l) X → alP a X
  | [], _, _, _ => trivial
  | b :: X, a, h, h2 => by
    refine ⟨?_, al_shift X (a + shr b) (fun x hx => h x (.tail _ hx)) ?_⟩
    · exact (Int.dvd_add_left (shr_dvd (h b (.head _)))).mp h2.1
    · rw [show a + shr b + shr l = a + shr l + shr b by omega]
      exact h2.2
theorem sz_dvd {l : Int} : ∀ (X : List Int), (∀ b ∈ X, b ≤ l) → shr l ∣ szL X
  | [], _ => Int.dvd_zero _
  | b :: X, h => Int.dvd_add (shr_dvd (h b (.head _))) (sz_dvd X (fun x hx => h x (.tail _ hx)))
/-- those that are jumped over stand in the relation -/
theorem gop_jump {P Q D : List Int} {u v : Int} (ho : gop P Q u v D) (hpos : ∀ x ∈ P ++ (Q ++ u :: v :: D), 0 < x) {A2 Q2 : List Int} {X : Int} (hQ : Q = A2 ++ X :: Q2) : Tl (A2 ++ X :: (Q2 ++ D)) (A2.length + 0) (u + v) 0 (u + v) := by
  obtain ⟨o1, o2, o3, o4⟩ := ho
  have hads := dsc_ads _ o3
  have hls := dsc_last _ o3 (v + 1) (by omega)
  have had : ads (u + v) (Q ++ [u]) := ads_suf P (by rw [← List.append_assoc]; exact hads)
  have hlast : v < lsD Q2 X := by
    rw [hQ, lsD_app, lsD_app] at hls
    exact hls
  rw [hQ] at had
  have hX := o1 X (by rw [hQ]; simp)
  have had1 : ads (u + v) ((u + v) :: (A2 ++ [X])) := by
    have h5 : ads (u + v) (A2 ++ [X]) := by
      have : A2 ++ X :: Q2 ++ [u] = (A2 ++ [X]) ++ (Q2 ++ [u]) := by simp
      rw [this] at had
      exact ads_pre had
    cases A2 with
    | nil =>
      have := hpos X (by rw [hQ]; simp)
      exact ⟨by omega, trivial⟩
    | cons y A2' =>
      have := hpos y (by rw [hQ]; simp)
      exact ⟨by omega, h5⟩
  have hXn : hdG (u + v - X) (Q2 ++ D) := by
    cases Q2 with
    | nil =>
      have hvX : v < X := hlast
      exact hdG_mono (by omega) o4
    | cons y Q2' =>
      have h6 : ads (u + v) (X :: y :: (Q2' ++ [u])) := ads_suf A2 (by simpa using had)
      have h7 : u + v < X + y := h6.1
      show u + v - X < y
      omega
  refine Tl_pre A2 (ads_pre (B := [X]) had1) (fun z hz => o1 z (by rw [hQ]; simp [hz])) ?_
  unfold Tl
  refine ⟨?_, rfl, hX, hXn⟩
  have key : ∀ (B : List Int) (p : Int), ads (u + v) (p :: (B ++ [X])) → u + v < lsD B p + X := by
    intro B
    induction B with
    | nil => intro p h; exact h.1
    | cons b B ihB => intro p h; exact ihB b h.2
  exact key A2 _ had1
theorem GL_al : ∀ (r : Nat) (row L : List Int), GL r row L → (∀ x ∈ row, 0 < x) → (∀ x ∈ L, x ≤ 25) → alP 0 L ∧ szL L = 2 ^ 25
  | 0, row, L, hg, _, _ => by
    rw [hg.2]
    exact ⟨⟨Int.dvd_zero _, trivial⟩, rfl⟩
  | r + 1, row, L, hg, hpos, hL => by
    obtain ⟨P, Q, u, v, D, LP, LQ, l, LD, e1, e2, n1, n2, n3, ho, hg'⟩ := hg
    have hpos1 : ∀ x ∈ P ++ (Q ++ u :: v :: D), 0 < x := fun x hx => hpos x (by rw [e1]; exact hx)
    have hu0 : 0 < u := hpos1 u (by simp)
    have hv0 : 0 < v := hpos1 v (by simp)
    have hpos' : ∀ x ∈ P ++ (u + v) :: (Q ++ D), 0 < x := fun x hx => by
      simp only [List.mem_append, List.mem_cons] at hx
      rcases hx with h | h | h | h
      · exact hpos1 x (by simp [h])
      · omega
      · exact hpos1 x (by simp [h])
      · exact hpos1 x (by simp [h])
    have hl25 : l + 1 ≤ 25 := hL (l + 1) (by rw [e2]; simp)
    have ih := GL_al r _ _ hg' hpos' (fun x hx => by
      simp only [List.mem_append, List.mem_cons] at hx
      rcases hx with h | h | h | h
      · exact hL x (by rw [e2]; simp [h])
      · omega
      · exact hL x (by rw [e2]; simp [h])
      · exact hL x (by rw [e2]; simp [h]))
    have hQl : ∀ b ∈ LQ, l ≤ b ∧ b ≤ l + 1 := fun b hb => by
      obtain ⟨i, hi, rfl⟩ := List.getElem_of_mem hb
      have hiQ : i < Q.length := by omega
      have hQ : Q = Q.take i ++ Q[i] :: Q.drop (i + 1) := by
        rw [← List.drop_eq_getElem_cons hiQ, List.take_append_drop]
      have ht := gop_jump ho hpos1 hQ
      have hA : (Q.take i).length = i := by
        rw [List.length_take]
        omega
      have hrow : P ++ (u + v) :: (Q ++ D) = P ++ (u + v) :: (Q.take i ++ Q[i] :: (Q.drop (i + 1) ++ D)) := by
        have e3 : Q.take i ++ Q[i] :: (Q.drop (i + 1) ++ D) = Q ++ D := by
          have h : (Q.take i ++ Q[i] :: Q.drop (i + 1)) ++ D = Q ++ D := congrArg (fun x => x ++ D) hQ.symm
          rw [List.append_assoc] at h
          exact h
        rw [e3]
      have := gw_rel r _ _ hg' hpos' P (u + v) _ _ 0 hrow ho.2.1 ht
      rw [hA, show P.length = LP.length from n1.symm, ix3'] at this
      have e4 : (LP ++ l :: (LQ ++ LD)).getD (LP.length + 1 + (i + 0)) 0 = LQ[i] := by
        rw [List.getD_eq_getElem?_getD, List.getElem?_append_right (by omega), show LP.length + 1 + (i + 0) - LP.length = i + 1 by omega, List.getElem?_cons_succ, List.getElem?_append_left hi, List.getElem?_eq_getElem hi]
        rfl
      rw [e4] at this
      omega
    rw [alP_app] at ih
    obtain ⟨⟨i1, i2, i3⟩, i4⟩ := ih
    rw [alP_app] at i3
    have h2 := shr_two hl25
    rw [e2]
    constructor
    · rw [alP_app, alP_app]
      have hz := sz_dvd LQ (l := l + 1) (fun b hb => (hQl b hb).2)
      have hd : shr (l + 1) ∣ 0 + szL LP := Int.dvd_trans (shr_dvd (by omega)) i2
      refine ⟨i1, al_shift LQ _ (fun b hb => (hQl b hb).1) i3.1, Int.dvd_add hd hz, Int.dvd_add (Int.dvd_add hd hz) (Int.dvd_refl _), ?_⟩
      rw [show 0 + szL LP + szL LQ + shr (l + 1) + shr (l + 1) = 0 + szL LP + shr l + szL LQ by omega]
      exact i3.2
    · rw [szL_app] at i4 ⊢
      rw [szL_app]
      have e5 : szL (l :: (LQ ++ LD)) = shr l + (szL LQ + szL LD) := by
        show shr l + szL (LQ ++ LD) = _
        rw [szL_app]
      have e6 : szL ((l + 1) :: (l + 1) :: LD) = shr (l + 1) + (shr (l + 1) + szL LD) := rfl
      rw [e5] at i4
      rw [e6]
      omega
