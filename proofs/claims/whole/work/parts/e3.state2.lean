/-! the class's steps on its state -/
section
variable {scr : List Int} {h h' h1 h2 : Hp} {T C S T' C' S' : List Int} {cs : List cdT} {wr wr' : Nat} {th : Int}
/-- what a call of the class answers, and what it leaves -/
def CS (scr : List Int) (h : Hp) (y : Nat) (as : List AV) (o : Option AV ⊕ Nat) (T C S : List Int) (cs : List cdT) (wr : Nat) : Prop := ∃ h1, (∀ P, Cy scr y as h P = P (o, h1)) ∧ Jc h1 T C S cs wr ∧ FC h h1 ∧ (ln h ≤ ln h1 ∧ ln h1 ≤ ln h + 6) ∧ nw 60 h h1 ∧ h1.2 ≤ h.2 + 1
/-- what a call of the reference answers, and what it leaves -/
def RS (scr : List Int) (h : Hp) (y : Nat) (as : List AV) (v : AV) (T C S : List Int) (cs : List cdT) (wr : Nat) (th : Int) : Prop := ∃ h1, (∀ P, Cy scr y as h P = P (.inl (some v), h1)) ∧ Jm h1 T C S cs wr th ∧ FM h h1 ∧ ln h1 ≤ ln h + 6 ∧ ySc h1 ≤ ySc h + 5000 ∧ h1.2 ≤ h.2
theorem Jc_up (hj : Jc h T C S cs wr) (x0 : gt h' 0 = some (xK wr')) (x1 : gt h' 1 = some (rW 120 T')) (x3 : gt h' 3 = some (rW 26 C')) (x6 : gt h' 6 = some (rW 3000 S')) (e5 : gt h' 5 = gt h 5) (eb : ∀ a, 65 ≤ a → a < ln h → gt h' a = gt h a) (hs : SI h') (hb : BI h') (e47 : gt h' 47 = gt h 47) : Jc h' T' C' S' cs wr' := by
  obtain ⟨_, _, _, _, ⟨es, ⟨mc, ed, x5, hl5⟩, c1, c2⟩, _, _, ⟨O, x47⟩⟩ := hj
  refine ⟨x0, x1, x3, x6, ⟨es, ⟨mc, ed, e5.trans x5, ?_⟩, c1, fun i hi => ?_⟩, hs, hb, ⟨O, e47.trans x47⟩⟩
  · rcases hl5 with hl5 | ⟨a, xs, y1, y2, y3, y4⟩
    · exact .inl hl5
    · exact .inr ⟨a, xs, y1, y2, (eb _ y2 (gt_lt y3)).trans y3, y4⟩
  · obtain ⟨⟨d1, d2, d3, d4⟩, d5⟩ := c2 i hi
    exact ⟨⟨d1, (eb _ d1 (gt_lt d2)).trans d2, (eb _ (by omega) (gt_lt d3)).trans d3, (eb _ (by omega) (gt_lt d4)).trans d4⟩, d5⟩
theorem BI_eq (hb : BI h) (e : gt h' 55 = gt h 55 ∧ gt h' 57 = gt h 57) : BI h' := by
  obtain ⟨⟨B, b1⟩, ⟨K, b2⟩⟩ := hb
  exact ⟨⟨B, e.1.trans b1⟩, ⟨K, e.2.trans b2⟩⟩
theorem Jc_1 (hj : Jc h T C S cs wr) (T' : List Int) : Jc (ut h 1 (rW 120 T')) T' C S cs wr := by
  have hj' := hj
  obtain ⟨x0, x1, x3, x6, _, hs, hb, _⟩ := hj'
  exact Jc_up hj ((gt_ne _ _ (by omega)).trans x0) (gt_eq _ _ (gt_lt x1)) ((gt_ne _ _ (by omega)).trans x3) ((gt_ne _ _ (by omega)).trans x6) (gt_ne _ _ (by omega)) (fun a h1 h2 => gt_ne _ _ (by omega)) (SI_eq hs (fun a h1 h2 => gt_ne _ _ (by omega))) (BI_eq hb ⟨gt_ne _ _ (by omega), gt_ne _ _ (by omega)⟩) (gt_ne _ _ (by omega))
theorem Jc_3 (hj : Jc h T C S cs wr) (C' : List Int) : Jc (ut h 3 (rW 26 C')) T C' S cs wr := by
  have hj' := hj
  obtain ⟨x0, x1, x3, x6, _, hs, hb, _⟩ := hj'
  exact Jc_up hj ((gt_ne _ _ (by omega)).trans x0) ((gt_ne _ _ (by omega)).trans x1) (gt_eq _ _ (gt_lt x3)) ((gt_ne _ _ (by omega)).trans x6) (gt_ne _ _ (by omega)) (fun a h1 h2 => gt_ne _ _ (by omega)) (SI_eq hs (fun a h1 h2 => gt_ne _ _ (by omega))) (BI_eq hb ⟨gt_ne _ _ (by omega), gt_ne _ _ (by omega)⟩) (gt_ne _ _ (by omega))
theorem Jc_6 (hj : Jc h T C S cs wr) (S' : List Int) : Jc (ut h 6 (rW 3000 S')) T C S' cs wr := by
  have hj' := hj
  obtain ⟨x0, x1, x3, x6, _, hs, hb, _⟩ := hj'
  exact Jc_up hj ((gt_ne _ _ (by omega)).trans x0) ((gt_ne _ _ (by omega)).trans x1) ((gt_ne _ _ (by omega)).trans x3) (gt_eq _ _ (gt_lt x6)) (gt_ne _ _ (by omega)) (fun a h1 h2 => gt_ne _ _ (by omega)) (SI_eq hs (fun a h1 h2 => gt_ne _ _ (by omega))) (BI_eq hb ⟨gt_ne _ _ (by omega), gt_ne _ _ (by omega)⟩) (gt_ne _ _ (by omega))
theorem Jc_0 (hj : Jc h T C S cs wr) (wr' : Nat) : Jc (ut h 0 (xK wr')) T C S cs wr' := by
  have hj' := hj
  obtain ⟨x0, x1, x3, x6, _, hs, hb, _⟩ := hj'
  exact Jc_up hj (gt_eq _ _ (gt_lt x0)) ((gt_ne _ _ (by omega)).trans x1) ((gt_ne _ _ (by omega)).trans x3) ((gt_ne _ _ (by omega)).trans x6) (gt_ne _ _ (by omega)) (fun a h1 h2 => gt_ne _ _ (by omega)) (SI_eq hs (fun a h1 h2 => gt_ne _ _ (by omega))) (BI_eq hb ⟨gt_ne _ _ (by omega), gt_ne _ _ (by omega)⟩) (gt_ne _ _ (by omega))
theorem Jc_59 (hj : Jc h T C S cs wr) (X : List Int) : Jc (ut h 59 (rW 240 X)) T C S cs wr := by
  have hj' := hj
  obtain ⟨x0, x1, x3, x6, _, hs, hb, _⟩ := hj'
  refine Jc_up hj ((gt_ne _ _ (by omega)).trans x0) ((gt_ne _ _ (by omega)).trans x1) ((gt_ne _ _ (by omega)).trans x3) ((gt_ne _ _ (by omega)).trans x6) (gt_ne _ _ (by omega)) (fun a h1 h2 => gt_ne _ _ (by omega)) ?_ (BI_eq hb ⟨gt_ne _ _ (by omega), gt_ne _ _ (by omega)⟩) (gt_ne _ _ (by omega))
  obtain ⟨s1, ⟨G, L, Wd, s2, s3⟩, ⟨F, s4⟩, ⟨x, s5⟩, ⟨y, s6⟩, ⟨z, s7⟩⟩ := hs
  have f : fr (fun a => a = 59) h (ut h 59 (rW 240 X)) := fr_ut _ (fr_refl _ _) rfl
  obtain ⟨q1, ⟨k0, ⟨O, k1⟩, ⟨A, k3, kA⟩, ⟨R, k5⟩, ⟨K, k7⟩⟩, ⟨Le, q3, q4⟩, ⟨Pc, q5⟩⟩ := s1
  exact ⟨⟨FI_eq q1 (fun a _ _ => gt_ne _ _ (by omega)), ⟨(gt_ne _ _ (by omega)).trans k0, ⟨O, (gt_ne _ _ (by omega)).trans k1⟩, ⟨A, (gt_ne _ _ (by omega)).trans k3, kA⟩, ⟨R, (gt_ne _ _ (by omega)).trans k5⟩, ⟨K, (gt_ne _ _ (by omega)).trans k7⟩⟩, ⟨Le, (gt_ne _ _ (by omega)).trans q3, q4⟩, ⟨Pc, (gt_ne _ _ (by omega)).trans q5⟩⟩, ⟨G, L, Wd, GI_eq s2 (fun a _ _ => gt_ne _ _ (by omega)), s3⟩, ⟨F, (gt_ne _ _ (by omega)).trans s4⟩, ⟨X, gt_eq _ _ (gt_lt s5)⟩, ⟨y, (gt_ne _ _ (by omega)).trans s6⟩, ⟨z, (gt_ne _ _ (by omega)).trans s7⟩⟩
theorem Jc_49 (hj : Jc h T C S cs wr) (X : List Int) : Jc (ut h 49 (rW 26 X)) T C S cs wr := by
  have hj' := hj
  obtain ⟨x0, x1, x3, x6, _, hs, hb, _⟩ := hj'
  refine Jc_up hj ((gt_ne _ _ (by omega)).trans x0) ((gt_ne _ _ (by omega)).trans x1) ((gt_ne _ _ (by omega)).trans x3) ((gt_ne _ _ (by omega)).trans x6) (gt_ne _ _ (by omega)) (fun a h1 h2 => gt_ne _ _ (by omega)) ?_ (BI_eq hb ⟨gt_ne _ _ (by omega), gt_ne _ _ (by omega)⟩) (gt_ne _ _ (by omega))
  obtain ⟨s1, ⟨G, L, Wd, s2, s3⟩, ⟨F, s4⟩, ⟨x, s5⟩, ⟨y, s6⟩, ⟨z, s7⟩⟩ := hs
  obtain ⟨q1, ⟨k0, ⟨O, k1⟩, ⟨A, k3, kA⟩, ⟨R, k5⟩, ⟨K, k7⟩⟩, ⟨Le, q3, q4⟩, ⟨Pc, q5⟩⟩ := s1
  exact ⟨⟨FI_eq q1 (fun a _ _ => gt_ne _ _ (by omega)), ⟨(gt_ne _ _ (by omega)).trans k0, ⟨O, (gt_ne _ _ (by omega)).trans k1⟩, ⟨A, (gt_ne _ _ (by omega)).trans k3, kA⟩, ⟨R, (gt_ne _ _ (by omega)).trans k5⟩, ⟨K, (gt_ne _ _ (by omega)).trans k7⟩⟩, ⟨Le, (gt_ne _ _ (by omega)).trans q3, q4⟩, ⟨Pc, (gt_ne _ _ (by omega)).trans q5⟩⟩, ⟨G, L, Wd, GI_eq s2 (fun a _ _ => gt_ne _ _ (by omega)), s3⟩, ⟨X, gt_eq _ _ (gt_lt s4)⟩, ⟨x, (gt_ne _ _ (by omega)).trans s5⟩, ⟨y, (gt_ne _ _ (by omega)).trans s6⟩, ⟨z, (gt_ne _ _ (by omega)).trans s7⟩⟩
theorem Jc_47 (hj : Jc h T C S cs wr) (X : List Int) : Jc (ut h 47 (rW 8 X)) T C S cs wr := by
  obtain ⟨x0, x1, x3, x6, ⟨es, ⟨mc, ed, x5, hl5⟩, c1, c2⟩, hs, hb, ⟨O, x47⟩⟩ := hj
  refine ⟨(gt_ne _ _ (by omega)).trans x0, (gt_ne _ _ (by omega)).trans x1, (gt_ne _ _ (by omega)).trans x3, (gt_ne _ _ (by omega)).trans x6, ⟨es, ⟨mc, ed, (gt_ne _ _ (by omega)).trans x5, ?_⟩, c1, fun i hi => ?_⟩, ?_, BI_eq hb ⟨gt_ne _ _ (by omega), gt_ne _ _ (by omega)⟩, ⟨X, gt_eq _ _ (gt_lt x47)⟩⟩
  · rcases hl5 with hl5 | ⟨a, xs, y1, y2, y3, y4⟩
    · exact .inl hl5
    · exact .inr ⟨a, xs, y1, y2, (gt_ne _ _ (by omega)).trans y3, y4⟩
  · obtain ⟨⟨d1, d2, d3, d4⟩, d5⟩ := c2 i hi
    exact ⟨⟨d1, (gt_ne _ _ (by omega)).trans d2, (gt_ne _ _ (by omega)).trans d3, (gt_ne _ _ (by omega)).trans d4⟩, d5⟩
  · obtain ⟨s1, ⟨G, L, Wd, s2, s3⟩, ⟨F, s4⟩, ⟨x, s5⟩, ⟨y, s6⟩, ⟨z, s7⟩⟩ := hs
    obtain ⟨q1, ⟨k0, ⟨O, k1⟩, ⟨A, k3, kA⟩, ⟨R, k5⟩, ⟨K, k7⟩⟩, ⟨Le, q3, q4⟩, ⟨Pc, q5⟩⟩ := s1
    exact ⟨⟨FI_eq q1 (fun a _ _ => gt_ne _ _ (by omega)), ⟨(gt_ne _ _ (by omega)).trans k0, ⟨O, (gt_ne _ _ (by omega)).trans k1⟩, ⟨A, (gt_ne _ _ (by omega)).trans k3, kA⟩, ⟨R, (gt_ne _ _ (by omega)).trans k5⟩, ⟨K, (gt_ne _ _ (by omega)).trans k7⟩⟩, ⟨Le, (gt_ne _ _ (by omega)).trans q3, q4⟩, ⟨Pc, (gt_ne _ _ (by omega)).trans q5⟩⟩, ⟨G, L, Wd, GI_eq s2 (fun a _ _ => gt_ne _ _ (by omega)), s3⟩, ⟨F, (gt_ne _ _ (by omega)).trans s4⟩, ⟨x, (gt_ne _ _ (by omega)).trans s5⟩, ⟨y, (gt_ne _ _ (by omega)).trans s6⟩, ⟨z, (gt_ne _ _ (by omega)).trans s7⟩⟩
/-- the costs' scratch changed -/
theorem Jc_q (hj : Jc h T C S cs wr) (hq : QI h') (f : fr qS h h') : Jc h' T C S cs wr := by
  have hj' := hj
  obtain ⟨x0, x1, x3, x6, _, hs, hb, _⟩ := hj'
  exact Jc_up hj ((f.2.2 _ (by omega)).trans x0) ((f.2.2 _ (by omega)).trans x1) ((f.2.2 _ (by omega)).trans x3) ((f.2.2 _ (by omega)).trans x6) (f.2.2 _ (by omega)) (fun a h1 h2 => f.2.2 _ (by omega)) (SI_qq hs hq (fun a _ _ _ _ _ _ => f.2.2 _ (by omega))) (BI_eq hb ⟨f.2.2 _ (by omega), f.2.2 _ (by omega)⟩) (f.2.2 _ (by omega))
theorem Jc_qb (hj : Jc h T C S cs wr) (hq : QI h') (hb' : BI h') (f : fr (fun a => qS a ∨ a = 55 ∨ a = 57) h h') : Jc h' T C S cs wr := by
  have hj' := hj
  obtain ⟨x0, x1, x3, x6, _, hs, hb, _⟩ := hj'
  exact Jc_up hj ((f.2.2 _ (by omega)).trans x0) ((f.2.2 _ (by omega)).trans x1) ((f.2.2 _ (by omega)).trans x3) ((f.2.2 _ (by omega)).trans x6) (f.2.2 _ (by omega)) (fun a h1 h2 => f.2.2 _ (by omega)) (SI_qq hs hq (fun a _ _ _ _ _ _ => f.2.2 _ (by omega))) hb' (f.2.2 _ (by omega))
theorem Jc_s (hj : Jc h T C S cs wr) (hs' : SI h') (f : fr sS h h') : Jc h' T C S cs wr := by
  have hj' := hj
  obtain ⟨x0, x1, x3, x6, _, hs, hb, _⟩ := hj'
  exact Jc_up hj ((f.2.2 _ (by omega)).trans x0) ((f.2.2 _ (by omega)).trans x1) ((f.2.2 _ (by omega)).trans x3) ((f.2.2 _ (by omega)).trans x6) (f.2.2 _ (by omega)) (fun a h1 h2 => f.2.2 _ (by omega)) hs' (BI_eq hb ⟨f.2.2 _ (by omega), f.2.2 _ (by omega)⟩) (f.2.2 _ (by omega))
/-- a code made -/
theorem Jc_mk {es : List Nat} {q : cdT} (hj : Jc h T C S cs wr) (hl : LI h es) (hc : CI h es cs) (hm : mkI h h' es q) (hq : cdO q) : Jc h' T C S (cs ++ [q]) wr ∧ FC h h' ∧ (ln h ≤ ln h' ∧ ln h' ≤ ln h + 6) ∧ nw 60 h h' ∧ h'.2 ≤ h.2 + 1 := by
  obtain ⟨q1, h1, f1, k1, k2, k3, k4, k5⟩ := hm
  have hj1 : FC h h1 := FC_fr f1 (fun a h9 => by omega)
  have fc : FC h h' := FC_tr hj1 (FC_frL k3)
  have lo : ∀ {a : Nat} {c : AC}, a < 65 → ¬ qS a → a ≠ 5 → gt h a = some c → (∀ xs, c ≠ cQ 0 xs) → gt h' a = some c := fun h1 h2 h3 h4 h5 => frL_keep k3 ((f1.2.2 _ h2).trans h4) h3 h5
  obtain ⟨x0, x1, x3, x6, _, hs, ⟨⟨B, b1⟩, ⟨K, b2⟩⟩, ⟨O, x47⟩⟩ := hj
  obtain ⟨s1, ⟨G, L, Wd, ⟨g0, g1, g3, g4, g6, g7, g8⟩, s3⟩, ⟨F, s4⟩, ⟨x, s5⟩, ⟨y, s6⟩, ⟨z, s7⟩⟩ := hs
  have nr : ∀ (cap : Nat) (X : List Int) (xs : List (Option Nat)), rW cap X ≠ cQ 0 xs := fun _ _ _ h9 => by cases h9
  obtain ⟨⟨ns, nj, v0⟩, ⟨O0, v1⟩, ⟨W0, v3⟩, ⟨P0, v5⟩, ⟨D0, v7⟩, ⟨Ln, v9⟩⟩ := g8
  refine ⟨⟨lo (by omega) (by omega) (by omega) x0 (fun _ h9 => by cases h9), lo (by omega) (by omega) (by omega) x1 (nr _ _), lo (by omega) (by omega) (by omega) x3 (nr _ _), lo (by omega) (by omega) (by omega) x6 (nr _ _), ⟨es ++ [ln h1], k1, by simp [hc.1], fun i hi => ?_⟩, ⟨q1, ⟨G, L, Wd, ⟨lo (by omega) (by omega) (by omega) g0 (fun _ h9 => by cases h9), lo (by omega) (by omega) (by omega) g1 (nr _ _), lo (by omega) (by omega) (by omega) g3 (fun _ h9 => by cases h9), lo (by omega) (by omega) (by omega) g4 (nr _ _), lo (by omega) (by omega) (by omega) g6 (nr _ _), g7, ⟨⟨ns, nj, lo (by omega) (by omega) (by omega) v0 (fun _ h9 => by cases h9)⟩, ⟨O0, lo (by omega) (by omega) (by omega) v1 (nr _ _)⟩, ⟨W0, lo (by omega) (by omega) (by omega) v3 (nr _ _)⟩, ⟨P0, lo (by omega) (by omega) (by omega) v5 (nr _ _)⟩, ⟨D0, lo (by omega) (by omega) (by omega) v7 (nr _ _)⟩, ⟨Ln, lo (by omega) (by omega) (by omega) v9 (nr _ _)⟩⟩⟩, s3⟩, ⟨F, lo (by omega) (by omega) (by omega) s4 (nr _ _)⟩, ⟨x, lo (by omega) (by omega) (by omega) s5 (nr _ _)⟩, ⟨y, lo (by omega) (by omega) (by omega) s6 (nr _ _)⟩, ⟨z, lo (by omega) (by omega) (by omega) s7 (nr _ _)⟩⟩, ⟨⟨B, lo (by omega) (by omega) (by omega) b1 (nr _ _)⟩, ⟨K, lo (by omega) (by omega) (by omega) b2 (nr _ _)⟩⟩, ⟨O, lo (by omega) (by omega) (by omega) x47 (nr _ _)⟩⟩, fc, ⟨by have := k3.1; have := f1.1; omega, by have := f1.1; omega⟩, nw_lnl (nw_mono k5 (by decide)) f1.1, by rw [k3.2.1, f1.2.1]; omega⟩
  rw [List.length_append, List.length_singleton] at hi
  by_cases h9 : i < es.length
  · rw [getD_app_l h9, getD_app_l (by rw [← hc.1]; exact h9)]
    obtain ⟨⟨d1, d2, d3, d4⟩, d5⟩ := hc.2 i h9
    exact ⟨⟨d1, fc _ _ d1 d2 (fun _ h9 => by cases h9), fc _ _ (by omega) d3 (nr _ _), fc _ _ (by omega) d4 (nr _ _)⟩, d5⟩
  · have e1 : i = es.length := by omega
    rw [e1, getD_app_e, hc.1, getD_app_e]
    exact ⟨k2, hq⟩
theorem Jc_xc (hj : Jc h T C S cs wr) : Jc (xc h) T C S cs wr := hj
/-- nothing changed but cells of the class -/
theorem CS_of {y : Nat} {as : List AV} {o : Option AV ⊕ Nat} (e : ∀ P, Cy scr y as h P = P (o, h')) (hj : Jc h' T C S cs wr) (f : FC h h') (hl : ln h' = ln h) (hx : h'.2 ≤ h.2 + 1) : CS scr h y as o T C S cs wr := ⟨h', e, hj, f, ⟨by omega, by omega⟩, nw_ln (by omega), hx⟩
theorem CS_same {y : Nat} {as : List AV} {o : Option AV ⊕ Nat} (e : ∀ P, Cy scr y as h P = P (o, h)) (hj : Jc h T C S cs wr) : CS scr h y as o T C S cs wr := CS_of e hj (FC_rf _) rfl (Nat.le_succ _)
theorem CS_x {y : Nat} {as : List AV} {e : Nat} (e1 : ∀ P, Cy scr y as h P = P (.inr e, xc h)) (hj : Jc h T C S cs wr) : CS scr h y as (.inr e) T C S cs wr := CS_of e1 (Jc_xc hj) (FC_rf _) rfl (Nat.le_refl _)
end
