/-! a step of the law out of the class's and the reference's -/
section
variable {scr : List Int} {h h' h1 h2 : Hp} {T C S T' C' S' : List Int} {cs cs' : List cdT} {wr wr' : Nat} {th th' : Int} {i : Int}
theorem Jm_up (hj : Jm h T C S cs wr th) (m0 : gt h' 65 = some (mK (T'.length : Nat) (cs.length : Nat) (S'.length : Nat) wr' th')) (m66 : gt h' 66 = some (cI 0 C')) (m67 : ∃ A, gt h' 67 = some (cI 0 A) ∧ A.length = 120 ∧ pre A T') (m71 : ∃ B, gt h' 71 = some (cI 0 B) ∧ B.length = 4200 ∧ pre B S') (eb : ∀ a, a = 68 ∨ a = 69 ∨ a = 70 ∨ 192 ≤ a → a < ln h → gt h' a = gt h a) (hs : MS h') (hw : ∃ Wd, MW h' Wd) : Jm h' T' C' S' cs wr' th' := ⟨m0, m66, m67, m71, mcI_fr hj.2.2.2.2.1 eb, hs, hw⟩
theorem Jm_65 (hj : Jm h T C S cs wr th) (th' : Int) : Jm (ut h 65 (mK (T.length : Nat) (cs.length : Nat) (S.length : Nat) wr th')) T C S cs wr th' := by
  have hj' := hj
  obtain ⟨m0, m66, ⟨A, m67, l67⟩, ⟨B, m71, l71⟩, hm, hs, ⟨Wd, w1, w2⟩⟩ := hj'
  exact Jm_up hj (gt_eq _ _ (gt_lt m0)) ((gt_ne _ _ (by omega)).trans m66) ⟨A, (gt_ne _ _ (by omega)).trans m67, l67⟩ ⟨B, (gt_ne _ _ (by omega)).trans m71, l71⟩ (fun a h1 h2 => gt_ne _ _ (by omega)) (MS_lo hs (by omega)) ⟨Wd, (gt_ne _ _ (by omega)).trans w1, w2⟩
theorem Jm_66 (hj : Jm h T C S cs wr th) (C' : List Int) : Jm (ut h 66 (cI 0 C')) T C' S cs wr th := by
  have hj' := hj
  obtain ⟨m0, m66, ⟨A, m67, l67⟩, ⟨B, m71, l71⟩, hm, hs, ⟨Wd, w1, w2⟩⟩ := hj'
  exact Jm_up hj ((gt_ne _ _ (by omega)).trans m0) (gt_eq _ _ (gt_lt m66)) ⟨A, (gt_ne _ _ (by omega)).trans m67, l67⟩ ⟨B, (gt_ne _ _ (by omega)).trans m71, l71⟩ (fun a h1 h2 => gt_ne _ _ (by omega)) (MS_lo hs (by omega)) ⟨Wd, (gt_ne _ _ (by omega)).trans w1, w2⟩
/-- the text changed -/
theorem Jm_T {A' : List Int} (hj : Jm h T C S cs wr th) (m0 : gt h' 65 = some (mK (T'.length : Nat) (cs.length : Nat) (S.length : Nat) wr th')) (m67 : gt h' 67 = some (cI 0 A')) (hA : A'.length = 120) (hp : pre A' T') (f : ∀ a, a < ln h → a ≠ 65 → a ≠ 67 → gt h' a = gt h a) : Jm h' T' C S cs wr th' := by
  have hj' := hj
  obtain ⟨m0', m66, _, ⟨B, m71, l71⟩, hm, hs, ⟨Wd, w1, w2⟩⟩ := hj'
  obtain ⟨⟨X1, a1, l1⟩, ⟨X2, a2, l2⟩, ⟨X3, a3, l3⟩, ⟨X4, a4, l4⟩, ⟨X5, a5, l5⟩, ⟨X6, a6, l6⟩, ⟨X7, a7, l7⟩, ⟨X8, a8, l8⟩, ⟨X9, a9, l9⟩, ⟨X10, a10, l10⟩, ⟨b1, b2, b3, b4, ⟨Y0, b5, c5⟩, ⟨Y1, b6, c6⟩, b7, b8⟩⟩ := hs
  have k : ∀ {a : Nat} {c : AC}, a ≠ 65 → a ≠ 67 → gt h a = some c → gt h' a = some c := fun h1 h2 hc => (f _ (gt_lt hc) h1 h2).trans hc
  refine Jm_up hj m0 (k (by omega) (by omega) m66) ⟨A', m67, hA, hp⟩ ⟨B, k (by omega) (by omega) m71, l71⟩ (fun a h1 h2 => f a h2 (by omega) (by omega)) ⟨⟨X1, k (by omega) (by omega) a1, l1⟩, ⟨X2, k (by omega) (by omega) a2, l2⟩, ⟨X3, k (by omega) (by omega) a3, l3⟩, ⟨X4, k (by omega) (by omega) a4, l4⟩, ⟨X5, k (by omega) (by omega) a5, l5⟩, ⟨X6, k (by omega) (by omega) a6, l6⟩, ⟨X7, k (by omega) (by omega) a7, l7⟩, ⟨X8, k (by omega) (by omega) a8, l8⟩, ⟨X9, k (by omega) (by omega) a9, l9⟩, ⟨X10, k (by omega) (by omega) a10, l10⟩, ⟨k (by omega) (by omega) b1, k (by omega) (by omega) b2, k (by omega) (by omega) b3, k (by omega) (by omega) b4, ⟨Y0, k (by omega) (by omega) b5, c5⟩, ⟨Y1, k (by omega) (by omega) b6, c6⟩, fun i hi => ?_, fun i hi => ?_⟩⟩ ⟨Wd, k (by omega) (by omega) w1, w2⟩
  · obtain ⟨X, x1, x2⟩ := b7 i hi
    exact ⟨X, k (by omega) (by omega) x1, x2⟩
  · obtain ⟨X, x1, x2⟩ := b8 i hi
    exact ⟨X, k (by omega) (by omega) x1, x2⟩
/-- only scratch changed -/
theorem Jm_s (hj : Jm h T C S cs wr th) (m0 : gt h' 65 = some (mK (T.length : Nat) (cs.length : Nat) (S.length : Nat) wr th')) (hs : MS h') (hw : ∃ Wd, MW h' Wd) (f : ∀ a, a < ln h → (65 < a ∧ a < 72) ∨ 192 ≤ a → gt h' a = gt h a) : Jm h' T C S cs wr th' := by
  have hj' := hj
  obtain ⟨m0', m66, ⟨A, m67, l67⟩, ⟨B, m71, l71⟩, hm, _, _⟩ := hj'
  exact Jm_up hj m0 ((f _ (gt_lt m66) (by omega)).trans m66) ⟨A, (f _ (gt_lt m67) (by omega)).trans m67, l67⟩ ⟨B, (f _ (gt_lt m71) (by omega)).trans m71, l71⟩ (fun a h1 h2 => f a h2 (by omega)) hs hw
theorem RS_of {y : Nat} {as : List AV} {v : AV} (e : ∀ P, Cy scr y as h P = P (.inl (some v), h')) (hj : Jm h' T C S cs wr th) (f : FM h h') (hl : ln h' ≤ ln h) (hx : h'.2 ≤ h.2) : RS scr h y as v T C S cs wr th := by
  have hk : kp h h' := kp_of e
  have hz := sz_of (N := 0) (k := 0) hk (nw_ln hl) (by omega)
  exact ⟨h', e, hj, f, by omega, by omega, hx⟩
theorem RS_new {y N k : Nat} {as : List AV} {v : AV} (e : ∀ P, Cy scr y as h P = P (.inl (some v), h')) (hj : Jm h' T C S cs wr th) (f : FM h h') (hl : ln h' ≤ ln h + k) (hk : k ≤ 6 ∧ k * N ≤ 5000) (hn : nw N h h') (hx : h'.2 ≤ h.2) : RS scr h y as v T C S cs wr th := by
  have hk1 : kp h h' := kp_of e
  have hz := sz_of (N := N) (k := k) hk1 hn hl
  exact ⟨h', e, hj, f, by omega, by omega, hx⟩
/-- the law's locals -/
abbrev lsl (i : Int) (u6 u7 u8 : Option AV) : Lc := [some (vM 0), some (vR (some 0)), some (vR (some 65)), some (vR (some 192)), some (vR (some 193)), some (vI i), u6, u7, u8]
/-- a step of the law: from block L to the loop's end, all of it kept -/
def ST (scr : List Int) (L : Nat) (i : Int) (h : Hp) : Prop := ∀ u6 u7 u8 : Option AV, ∃ (h2 : Hp) (u6' u7' u8' : Option AV), (∀ P, Py scr 295 (zprog 295 L) (lsl i u6 u7 u8) [] h P = Py scr 295 (zprog 295 126) (lsl i u6' u7' u8') [] h2 P) ∧ (∃ T C S cs wr th, J h2 T C S cs wr th) ∧ ln h2 ≤ ln h + 12 ∧ ySc h2 ≤ ySc h + 5400 ∧ h2.2 ≤ h.2 + 1
theorem J_of {w : List Int} {d : List UInt64} (jc : Jc h1 T' C' S' cs' wr') (jm : Jm h1 T C S cs wr th) (o1 : gt h1 192 = some (cL w)) (hw : w.length = 1) (o2 : gt h1 193 = some (cD d)) (hd : d.length = 1) (jm2 : Jm h2 T' C' S' cs' wr' th') (f : FM h1 h2) (st : stO T' C' S' cs' wr') : J h2 T' C' S' cs' wr' th' := by
  have l1 := gt_lt o1
  have l2 := gt_lt o2
  refine ⟨Jc_FM jc (fun a ha => NT_of jm ha) (by omega) (fun a h1 h2 _ => f.2 a h1 h2), jm2, ?_, ?_, st⟩
  · match w, hw with
    | [v], _ => exact ⟨v, (f.2 _ l1 (by omega)).trans o1⟩
  · match d, hd with
    | [v], _ => exact ⟨v, (f.2 _ l2 (by omega)).trans o2⟩
theorem Jc_out {w : List Int} {v : Int} (hj : Jc h T C S cs wr) (ho : gt h 192 = some (cL [v])) : Jc (ut h 192 (cL w)) T C S cs wr := by
  have hj' := hj
  obtain ⟨x0, x1, x3, x6, ⟨es, ⟨mc, ed, x5, hl5⟩, c1, c2⟩, hs, hb, ⟨O, x47⟩⟩ := hj'
  refine ⟨(gt_ne _ _ (by omega)).trans x0, (gt_ne _ _ (by omega)).trans x1, (gt_ne _ _ (by omega)).trans x3, (gt_ne _ _ (by omega)).trans x6, ⟨es, ⟨mc, ed, (gt_ne _ _ (by omega)).trans x5, ?_⟩, c1, fun i hi => ?_⟩, SI_eq hs (fun a h1 h2 => gt_ne _ _ (by omega)), BI_eq hb ⟨gt_ne _ _ (by omega), gt_ne _ _ (by omega)⟩, ⟨O, (gt_ne _ _ (by omega)).trans x47⟩⟩
  · rcases hl5 with hl5 | ⟨a, xs, y1, y2, y3, y4⟩
    · exact .inl hl5
    · exact .inr ⟨a, xs, y1, y2, (gt_ne _ _ (fun e => by rw [← e, ho] at y3; cases y3)).trans y3, y4⟩
  · obtain ⟨⟨d1, d2, d3, d4⟩, d5⟩ := c2 i hi
    exact ⟨⟨d1, (gt_ne _ _ (fun e => by rw [← e, ho] at d2; cases d2)).trans d2, (gt_ne _ _ (fun e => by rw [← e, ho] at d3; cases d3)).trans d3, (gt_ne _ _ (fun e => by rw [← e, ho] at d4; cases d4)).trans d4⟩, d5⟩
theorem Jc_outD {w : List UInt64} {v : List UInt64} (hj : Jc h T C S cs wr) (ho : gt h 193 = some (cD v)) : Jc (ut h 193 (cD w)) T C S cs wr := by
  have hj' := hj
  obtain ⟨x0, x1, x3, x6, ⟨es, ⟨mc, ed, x5, hl5⟩, c1, c2⟩, hs, hb, ⟨O, x47⟩⟩ := hj'
  refine ⟨(gt_ne _ _ (by omega)).trans x0, (gt_ne _ _ (by omega)).trans x1, (gt_ne _ _ (by omega)).trans x3, (gt_ne _ _ (by omega)).trans x6, ⟨es, ⟨mc, ed, (gt_ne _ _ (by omega)).trans x5, ?_⟩, c1, fun i hi => ?_⟩, SI_eq hs (fun a h1 h2 => gt_ne _ _ (by omega)), BI_eq hb ⟨gt_ne _ _ (by omega), gt_ne _ _ (by omega)⟩, ⟨O, (gt_ne _ _ (by omega)).trans x47⟩⟩
  · rcases hl5 with hl5 | ⟨a, xs, y1, y2, y3, y4⟩
    · exact .inl hl5
    · exact .inr ⟨a, xs, y1, y2, (gt_ne _ _ (fun e => by rw [← e, ho] at y3; cases y3)).trans y3, y4⟩
  · obtain ⟨⟨d1, d2, d3, d4⟩, d5⟩ := c2 i hi
    exact ⟨⟨d1, (gt_ne _ _ (fun e => by rw [← e, ho] at d2; cases d2)).trans d2, (gt_ne _ _ (fun e => by rw [← e, ho] at d3; cases d3)).trans d3, (gt_ne _ _ (fun e => by rw [← e, ho] at d4; cases d4)).trans d4⟩, d5⟩
theorem ySc_ut {a : Nat} {c d : AC} (hc : gt h a = some c) (hd : yz d = yz c) : ySc (ut h a d) ≤ ySc h := by
  have hk1 : kp h (ut h a d) := kp_set hc hd
  have hz := sz_of (N := 0) (k := 0) hk1 (nw_ln (by rw [ln_ut]; exact Nat.le_refl _)) (by rw [ln_ut]; omega)
  omega
/-- both answer -/
theorem ST_ok {W y R L : Nat} {as was mas : List AV} {cv rv : AV} {w : Int} {f6 f7 f8 : Option AV → Option AV} (hj : J h T C S cs wr th) (hc : CS scr h y as (.inl (some cv)) T' C' S' cs' wr') (hw : ∀ {h1 : Hp} {u : Int}, (∀ P, Cy scr y as h P = P (.inl (some cv), h1)) → gt h1 192 = some (cL [u]) → ∀ P, Cy scr W was h P = P (.inl (some (vI 0)), ut h1 192 (cL [w]))) (hr : ∀ h1, Jm h1 T C S cs wr th → 194 ≤ ln h1 → RS scr h1 R mas rv T' C' S' cs' wr' 0) (hl : ∀ {h1 h2 : Hp} {my1 cd1 bt1 wn1 th1 my cd bt wn : Int} {u6 u7 u8 : Option AV}, gt h1 65 = some (mK my1 cd1 bt1 wn1 th1) → gt h2 65 = some (mK my cd bt wn 0) → (∀ P, Cy scr W was h P = P (.inl (some (vI 0)), h1)) → (∀ P, Cy scr R mas h1 P = P (.inl (some rv), h2)) → gt h2 192 = some (cL [w]) → ∀ P, Py scr 295 (zprog 295 L) (lsl i u6 u7 u8) [] h P = Py scr 295 (zprog 295 126) (lsl i (f6 u6) (f7 u7) (f8 u8)) [] h2 P) (st : stO T' C' S' cs' wr') : ST scr L i h := fun u6 u7 u8 => by
  obtain ⟨jc, jm, ⟨u, o1⟩, ⟨d, o2⟩, _⟩ := hj
  obtain ⟨h1, e1, jc1, fc, ⟨l1, l2⟩, n1, x1⟩ := hc
  have p1 := fc _ _ (by omega) o1 (refc_L _).1
  have p2 := fc _ _ (by omega) o2 (refc_D _).1
  have jm1 := Jm_out (w := [w]) (Jm_FC jm fc) p1 rfl
  have g1 : gt (ut h1 192 (cL [w])) 192 = some (cL [w]) := gt_eq _ _ (gt_lt p1)
  have g2 : gt (ut h1 192 (cL [w])) 193 = some (cD [d]) := (gt_ne _ _ (by omega)).trans p2
  have q2 := gt_lt g2
  obtain ⟨h2, e2, jm2, fm, l3, y3, x2⟩ := hr _ jm1 (by omega)
  have hk1 : kp h h1 := kp_of e1
  have z1 := sz_of hk1 n1 l2
  have z2 := ySc_ut (d := cL [w]) p1 rfl
  rw [ln_ut] at l3
  refine ⟨h2, f6 u6, f7 u7, f8 u8, hl jm1.1 jm2.1 (hw e1 p1) e2 ((fm.2 _ (gt_lt g1) (by omega)).trans g1), ⟨T', C', S', cs', wr', 0, J_of (Jc_out jc1 p1) jm1 g1 rfl g2 rfl jm2 fm st⟩, by omega, by omega, ?_⟩
  have x3 : (ut h1 192 (cL [w])).2 = h1.2 := rfl
  omega
/-- the class throws, the reference says which -/
theorem ST_ex {W y R L e : Nat} {k : Int} {as was mas : List AV} {rv : AV} {f6 f7 f8 : Option AV → Option AV} (hj : J h T C S cs wr th) (hc : CS scr h y as (.inr e) T C S cs wr) (hw : ∀ {h1 : Hp}, (∀ P, Cy scr y as h P = P (.inr e, h1)) → ∀ P, Cy scr W was h P = P (.inl (some (vI k)), h1)) (hr : ∀ h1, Jm h1 T C S cs wr th → 194 ≤ ln h1 → RS scr h1 R mas rv T C S cs wr k) (hl : ∀ {h1 h2 : Hp} {w : Int} {my1 cd1 bt1 wn1 th1 my cd bt wn : Int} {u6 u7 u8 : Option AV}, gt h1 65 = some (mK my1 cd1 bt1 wn1 th1) → gt h2 65 = some (mK my cd bt wn k) → (∀ P, Cy scr W was h P = P (.inl (some (vI k)), h1)) → (∀ P, Cy scr R mas h1 P = P (.inl (some rv), h2)) → gt h2 192 = some (cL [w]) → ∀ P, Py scr 295 (zprog 295 L) (lsl i u6 u7 u8) [] h P = Py scr 295 (zprog 295 126) (lsl i (f6 u6) (f7 u7) (f8 u8)) [] h2 P) : ST scr L i h := fun u6 u7 u8 => by
  obtain ⟨jc, jm, ⟨u, o1⟩, ⟨d, o2⟩, st⟩ := hj
  obtain ⟨h1, e1, jc1, fc, ⟨l1, l2⟩, n1, x1⟩ := hc
  have p1 := fc _ _ (by omega) o1 (refc_L _).1
  have p2 := fc _ _ (by omega) o2 (refc_D _).1
  have jm1 := Jm_FC jm fc
  have q2 := gt_lt p2
  obtain ⟨h2, e2, jm2, fm, l3, y3, x2⟩ := hr _ jm1 (by omega)
  have hk1 : kp h h1 := kp_of e1
  have z1 := sz_of hk1 n1 l2
  exact ⟨h2, f6 u6, f7 u7, f8 u8, hl jm1.1 jm2.1 (hw e1) e2 ((fm.2 _ (gt_lt p1) (by omega)).trans p1), ⟨T, C, S, cs, wr, k, J_of jc1 jm1 p1 rfl p2 rfl jm2 fm st⟩, by omega, by omega, by omega⟩
/-- both answer, nothing is ever refused -/
theorem ST_A {y R L : Nat} {as mas : List AV} {v : AV} {f6 f7 f8 : Option AV → Option AV} (hj : J h T C S cs wr th) (hc : CS scr h y as (.inl (some v)) T' C' S' cs' wr') (hr : ∀ h1, Jm h1 T C S cs wr th → 194 ≤ ln h1 → RS scr h1 R mas v T' C' S' cs' wr' th') (hl : ∀ {h1 h2 : Hp} {my1 cd1 bt1 wn1 th1 my cd bt wn : Int} {u6 u7 u8 : Option AV}, gt h1 65 = some (mK my1 cd1 bt1 wn1 th1) → gt h2 65 = some (mK my cd bt wn th') → (∀ P, Cy scr y as h P = P (.inl (some v), h1)) → (∀ P, Cy scr R mas h1 P = P (.inl (some v), h2)) → ∀ P, Py scr 295 (zprog 295 L) (lsl i u6 u7 u8) [] h P = Py scr 295 (zprog 295 126) (lsl i (f6 u6) (f7 u7) (f8 u8)) [] h2 P) (st : stO T' C' S' cs' wr') : ST scr L i h := fun u6 u7 u8 => by
  obtain ⟨jc, jm, ⟨u, o1⟩, ⟨d, o2⟩, _⟩ := hj
  obtain ⟨h1, e1, jc1, fc, ⟨l1, l2⟩, n1, x1⟩ := hc
  have p1 := fc _ _ (by omega) o1 (refc_L _).1
  have p2 := fc _ _ (by omega) o2 (refc_D _).1
  have jm1 := Jm_FC jm fc
  have q2 := gt_lt p2
  obtain ⟨h2, e2, jm2, fm, l3, y3, x2⟩ := hr _ jm1 (by omega)
  have hk1 : kp h h1 := kp_of e1
  have z1 := sz_of hk1 n1 l2
  exact ⟨h2, f6 u6, f7 u7, f8 u8, hl jm1.1 jm2.1 e1 e2, ⟨T', C', S', cs', wr', th', J_of jc1 jm1 p1 rfl p2 rfl jm2 fm st⟩, by omega, by omega, by omega⟩
end
