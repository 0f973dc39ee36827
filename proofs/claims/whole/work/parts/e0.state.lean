/-! THE STATE: what class and reference keep between two calls -/
def stO (T C S : List Int) (cs : List cdT) (wr : Nat) : Prop := (T.length ≤ 120 ∧ ∀ x ∈ T, 0 ≤ x ∧ x < 26) ∧ (C.length = 26 ∧ ∀ x ∈ C, 0 ≤ x ∧ x ≤ 9999) ∧ (S.length ≤ 3000 ∧ bitR S) ∧ (cs.length ≤ 12 ∧ ∀ q ∈ cs, gdC q) ∧ wr ≤ 120
/-- the class's heap -/
def Jc (h : Hp) (T C S : List Int) (cs : List cdT) (wr : Nat) : Prop := gt h 0 = some (xK wr) ∧ gt h 1 = some (rW 120 T) ∧ gt h 3 = some (rW 26 C) ∧ gt h 6 = some (rW 3000 S) ∧ (∃ es, LI h es ∧ CI h es cs) ∧ SI h ∧ BI h ∧ ∃ O, gt h 47 = some (rW 8 O)
/-- the reference's heap -/
def Jm (h : Hp) (T C S : List Int) (cs : List cdT) (wr : Nat) (th : Int) : Prop := gt h 65 = some (mK (T.length : Nat) (cs.length : Nat) (S.length : Nat) wr th) ∧ gt h 66 = some (cI 0 C) ∧ (∃ A, gt h 67 = some (cI 0 A) ∧ A.length = 120 ∧ pre A T) ∧ (∃ B, gt h 71 = some (cI 0 B) ∧ B.length = 4200 ∧ pre B S) ∧ mcI h cs ∧ MS h ∧ ∃ Wd, MW h Wd
theorem mem_getD {α : Type} {l : List α} {i : Nat} {d : α} (hi : i < l.length) : l.getD i d ∈ l := by
  rw [List.getD_eq_getElem?_getD, List.getElem?_eq_getElem hi]
  exact List.getElem_mem hi
theorem csO_of {cs : List cdT} (h : cs.length ≤ 12 ∧ ∀ q ∈ cs, gdC q) : csO cs := ⟨h.1, fun _ hi => (h.2 _ (mem_getD hi)).1⟩
theorem rngC {C : List Int} (h : ∀ x ∈ C, 0 ≤ x ∧ x ≤ 9999) : rng C := fun x hx => by have := h x hx; omega
theorem sumC : ∀ {C : List Int}, (∀ x ∈ C, 0 ≤ x ∧ x ≤ 9999) → 0 ≤ C.sum ∧ C.sum ≤ 9999 * (C.length : Int)
  | [], _ => by simp
  | a :: C, h => by
    have h1 := h a (List.mem_cons_self ..)
    have h2 := sumC (C := C) (fun x hx => h x (List.mem_cons_of_mem _ hx))
    rw [List.sum_cons, List.length_cons]
    omega
theorem MS_lo {h : Hp} {a : Nat} {c : AC} (hm : MS h) (ha : a < 72) : MS (ut h a c) := MS_ut hm (by repeat (first | exact Or.inl ha | apply Or.inr))
theorem MS_hi {h : Hp} {a : Nat} {c : AC} (hm : MS h) (ha : 191 < a) : MS (ut h a c) := MS_ut hm (by repeat (first | exact Or.inr ha | apply Or.inr))
/-- cells that the reference's object has -/
def refc (d : AC) : Prop := (∀ xs, d ≠ cQ 0 xs) ∧ ∀ k fs, d = .inl (k, fs) → k = 6
theorem refc_I (t : Nat) (xs : List Int) : refc (cI t xs) := ⟨fun _ h => (by cases h), fun _ _ h => (by cases h)⟩
theorem refc_L (xs : List Int) : refc (cL xs) := ⟨fun _ h => (by cases h), fun _ _ h => (by cases h)⟩
theorem refc_D (xs : List UInt64) : refc (cD xs) := ⟨fun _ h => (by cases h), fun _ _ h => (by cases h)⟩
theorem refc_Q {t : Nat} (xs : List (Option Nat)) (ht : t ≠ 0) : refc (cQ t xs) := ⟨fun _ h => (by cases h; exact ht rfl), fun _ _ h => (by cases h)⟩
theorem refc_M {a b c d e : Int} : refc (mK a b c d e) := ⟨fun _ h => (by cases h), fun _ _ h => (by cases h; rfl)⟩
section
variable {h h' h1 h2 : Hp} {T C S : List Int} {cs : List cdT} {wr : Nat} {th : Int}
theorem NT_of (hj : Jm h T C S cs wr th) {a : Nat} (ha : 65 ≤ a ∧ a ≤ 191) : ∃ d, gt h a = some d ∧ refc d := by
  obtain ⟨m0, m66, ⟨A, m67, _⟩, ⟨B, m71, _⟩, ⟨K, la, wa, k1, _, k3, _, k5, _⟩, ⟨⟨X1, a1, _⟩, ⟨X2, a2, _⟩, ⟨X3, a3, _⟩, ⟨X4, a4, _⟩, ⟨X5, a5, _⟩, ⟨X6, a6, _⟩, ⟨X7, a7, _⟩, ⟨X8, a8, _⟩, ⟨X9, a9, _⟩, ⟨X10, a10, _⟩, ⟨b1, b2, b3, b4, ⟨Y0, b5, _⟩, ⟨Y1, b6, _⟩, b7, b8⟩⟩, _⟩ := hj
  have cs : a = 65 ∨ a = 66 ∨ a = 67 ∨ a = 68 ∨ a = 69 ∨ a = 70 ∨ a = 71 ∨ a = 72 ∨ a = 73 ∨ a = 74 ∨ a = 75 ∨ a = 76 ∨ a = 77 ∨ a = 78 ∨ a = 79 ∨ a = 80 ∨ a = 81 ∨ a = 82 ∨ a = 83 ∨ a = 136 ∨ a = 189 ∨ a = 190 ∨ a = 191 ∨ (84 ≤ a ∧ a < 136) ∨ (137 ≤ a ∧ a < 189) := by omega
  rcases cs with e | e | e | e | e | e | e | e | e | e | e | e | e | e | e | e | e | e | e | e | e | e | e | e | e
  · exact e ▸ ⟨_, m0, refc_M⟩
  · exact e ▸ ⟨_, m66, refc_I _ _⟩
  · exact e ▸ ⟨_, m67, refc_I _ _⟩
  · exact e ▸ ⟨_, k1, refc_I _ _⟩
  · exact e ▸ ⟨_, k3, refc_Q _ (by decide)⟩
  · exact e ▸ ⟨_, k5, refc_Q _ (by decide)⟩
  · exact e ▸ ⟨_, m71, refc_I _ _⟩
  · exact e ▸ ⟨_, a1, refc_I _ _⟩
  · exact e ▸ ⟨_, a2, refc_I _ _⟩
  · exact e ▸ ⟨_, a3, refc_I _ _⟩
  · exact e ▸ ⟨_, a4, refc_I _ _⟩
  · exact e ▸ ⟨_, a5, refc_L _⟩
  · exact e ▸ ⟨_, a6, refc_I _ _⟩
  · exact e ▸ ⟨_, a7, refc_I _ _⟩
  · exact e ▸ ⟨_, a8, refc_I _ _⟩
  · exact e ▸ ⟨_, a9, refc_I _ _⟩
  · exact e ▸ ⟨_, a10, refc_I _ _⟩
  · exact e ▸ ⟨_, b1, refc_Q _ (by decide)⟩
  · exact e ▸ ⟨_, b2, refc_Q _ (by decide)⟩
  · exact e ▸ ⟨_, b3, refc_Q _ (by decide)⟩
  · exact e ▸ ⟨_, b4, refc_Q _ (by decide)⟩
  · exact e ▸ ⟨_, b5, refc_Q _ (by decide)⟩
  · exact e ▸ ⟨_, b6, refc_Q _ (by decide)⟩
  · obtain ⟨X, x1, _⟩ := b7 (a - 84) (by omega)
    rw [show 84 + (a - 84) = a by omega] at x1
    exact ⟨_, x1, refc_L _⟩
  · obtain ⟨X, x1, _⟩ := b8 (a - 137) (by omega)
    rw [show 137 + (a - 137) = a by omega] at x1
    exact ⟨_, x1, refc_L _⟩
/-- the class's steps: of the cells behind its own only arrays of codes change -/
def FC (h h' : Hp) : Prop := ∀ (a : Nat) (c : AC), 65 ≤ a → gt h a = some c → (∀ xs, c ≠ cQ 0 xs) → gt h' a = some c
theorem FC_rf (h : Hp) : FC h h := fun _ _ _ hc _ => hc
theorem FC_tr (f1 : FC h h1) (f2 : FC h1 h2) : FC h h2 := fun a c ha hc hn => f2 a c ha (f1 a c ha hc hn) hn
theorem FC_ut {b : Nat} (c : AC) (f : FC h h') (hb : b < 65) : FC h (ut h' b c) := fun a d ha hd hn => (gt_ne _ _ (by omega)).trans (f a d ha hd hn)
theorem FC_utN {b : Nat} (c : AC) (f : FC h h') (hb : ln h ≤ b) : FC h (ut h' b c) := fun a d ha hd hn => (gt_ne _ _ (by have := gt_lt hd; omega)).trans (f a d ha hd hn)
theorem FC_ap (c : AC) (f : FC h h') : FC h (ap h' c) := fun a d ha hd hn => (gt_al _ _ (gt_lt (f a d ha hd hn))).trans (f a d ha hd hn)
theorem FC_xc (f : FC h h') : FC h (xc h') := f
theorem FC_fr {Q : Nat → Prop} (f : fr Q h h') (hs : ∀ a, Q a → a < 65) : FC h h' := fun a c ha hc _ => (f.2.2 a (fun h9 => by have := hs a h9; omega)).trans hc
theorem FC_frL (f : frL h h') : FC h h' := fun a c ha hc hn => frL_keep f hc (by omega) hn
/-- the reference's steps: only its own cells change -/
def FM (h h' : Hp) : Prop := ln h ≤ ln h' ∧ ∀ a, a < ln h → (a < 65 ∨ 192 ≤ a) → gt h' a = gt h a
theorem FM_rf (h : Hp) : FM h h := ⟨Nat.le_refl _, fun _ _ _ => rfl⟩
theorem FM_ut {b : Nat} (c : AC) (f : FM h h') (hb : 65 ≤ b ∧ b ≤ 191) : FM h (ut h' b c) := ⟨by rw [ln_ut]; exact f.1, fun a ha hs => (gt_ne _ _ (by omega)).trans (f.2 a ha hs)⟩
theorem FM_ap (c : AC) (f : FM h h') : FM h (ap h' c) := ⟨by rw [ln_ap]; have := f.1; omega, fun a ha hs => (gt_al _ _ (Nat.lt_of_lt_of_le ha f.1)).trans (f.2 a ha hs)⟩
theorem FM_fr {Q : Nat → Prop} (f : fr Q h h') (hs : ∀ a, Q a → 65 ≤ a ∧ a ≤ 191) : FM h h' := ⟨Nat.le_of_eq f.1.symm, fun a _ h8 => f.2.2 a (fun h9 => by have := hs a h9; omega)⟩
theorem FM_frB {Q : Nat → Prop} (f : frB Q h h') (hs : ∀ a, Q a → 65 ≤ a ∧ a ≤ 191) : FM h h' := ⟨f.1, fun a ha h8 => f.2.2 a ha (fun h9 => by have := hs a h9; omega)⟩
theorem FM_tr (f1 : FM h h1) (f2 : FM h1 h2) : FM h h2 := ⟨Nat.le_trans f1.1 f2.1, fun a ha hs => (f2.2 a (Nat.lt_of_lt_of_le ha f1.1) hs).trans (f1.2 a ha hs)⟩
/-- the reference's cells stay under the class's steps -/
theorem Jm_FC (hj : Jm h T C S cs wr th) (f : FC h h') : Jm h' T C S cs wr th := by
  have kI : ∀ {a t : Nat} {X : List Int}, 65 ≤ a → gt h a = some (cI t X) → gt h' a = some (cI t X) := fun ha hc => f _ _ ha hc (refc_I _ _).1
  have kL : ∀ {a : Nat} {X : List Int}, 65 ≤ a → gt h a = some (cL X) → gt h' a = some (cL X) := fun ha hc => f _ _ ha hc (refc_L _).1
  have kQ : ∀ {a t : Nat} {X : List (Option Nat)}, 65 ≤ a → t ≠ 0 → gt h a = some (cQ t X) → gt h' a = some (cQ t X) := fun ha ht hc => f _ _ ha hc (refc_Q _ ht).1
  obtain ⟨m0, m66, ⟨A, m67, l67⟩, ⟨B, m71, l71⟩, ⟨K, la, wa, k1, k2, k3, k4, k5, k6, k7⟩, ⟨⟨X1, a1, l1⟩, ⟨X2, a2, l2⟩, ⟨X3, a3, l3⟩, ⟨X4, a4, l4⟩, ⟨X5, a5, l5⟩, ⟨X6, a6, l6⟩, ⟨X7, a7, l7⟩, ⟨X8, a8, l8⟩, ⟨X9, a9, l9⟩, ⟨X10, a10, l10⟩, ⟨b1, b2, b3, b4, ⟨Y0, b5, c5⟩, ⟨Y1, b6, c6⟩, b7, b8⟩⟩, ⟨Wd, w1, w2⟩⟩ := hj
  refine ⟨f _ _ (by omega) m0 refc_M.1, kI (by omega) m66, ⟨A, kI (by omega) m67, l67⟩, ⟨B, kI (by omega) m71, l71⟩, ⟨K, la, wa, kI (by omega) k1, k2, kQ (by omega) (by decide) k3, k4, kQ (by omega) (by decide) k5, k6, fun i hi => ?_⟩, ⟨⟨X1, kI (by omega) a1, l1⟩, ⟨X2, kI (by omega) a2, l2⟩, ⟨X3, kI (by omega) a3, l3⟩, ⟨X4, kI (by omega) a4, l4⟩, ⟨X5, kL (by omega) a5, l5⟩, ⟨X6, kI (by omega) a6, l6⟩, ⟨X7, kI (by omega) a7, l7⟩, ⟨X8, kI (by omega) a8, l8⟩, ⟨X9, kI (by omega) a9, l9⟩, ⟨X10, kI (by omega) a10, l10⟩, ⟨kQ (by omega) (by decide) b1, kQ (by omega) (by decide) b2, kQ (by omega) (by decide) b3, kQ (by omega) (by decide) b4, ⟨Y0, kQ (by omega) (by decide) b5, c5⟩, ⟨Y1, kQ (by omega) (by decide) b6, c6⟩, fun i hi => ?_, fun i hi => ?_⟩⟩, ⟨Wd, kL (by omega) w1, w2⟩⟩
  · obtain ⟨i1, i2, l, w, i3, i4, i5, i6, i7, i8⟩ := k7 i hi
    exact ⟨i1, i2, l, w, i3, i4, i5, i6, kI (by omega) i7, kL (by omega) i8⟩
  · obtain ⟨X, x1, x2⟩ := b7 i hi
    exact ⟨X, kL (by omega) x1, x2⟩
  · obtain ⟨X, x1, x2⟩ := b8 i hi
    exact ⟨X, kL (by omega) x1, x2⟩
/-- writing the answer's cell changes nothing of the reference -/
theorem Jm_out (hj : Jm h T C S cs wr th) {v : Int} {w : List Int} (ho : gt h 192 = some (cL [v])) (hw : w.length = 1) : Jm (ut h 192 (cL w)) T C S cs wr th := by
  obtain ⟨m0, m66, ⟨A, m67, l67⟩, ⟨B, m71, l71⟩, hm, hs, ⟨Wd, w1, w2⟩⟩ := hj
  have f : fr (fun a => a = 192) h (ut h 192 (cL w)) := fr_ut _ (fr_refl _ _) rfl
  refine ⟨(gt_ne _ _ (by omega)).trans m0, (gt_ne _ _ (by omega)).trans m66, ⟨A, (gt_ne _ _ (by omega)).trans m67, l67⟩, ⟨B, (gt_ne _ _ (by omega)).trans m71, l71⟩, ?_, MS_hi hs (by omega), ⟨Wd, (gt_ne _ _ (by omega)).trans w1, w2⟩⟩
  obtain ⟨K, la, wa, k1, k2, k3, k4, k5, k6, k7⟩ := hm
  refine ⟨K, la, wa, (gt_ne _ _ (by omega)).trans k1, k2, (gt_ne _ _ (by omega)).trans k3, k4, (gt_ne _ _ (by omega)).trans k5, k6, fun i hi => ?_⟩
  obtain ⟨i1, i2, l, w', i3, i4, i5, i6, i7, i8⟩ := k7 i hi
  have n1 : 192 ≠ l := fun e => by rw [← e, ho] at i7; cases i7
  have n2 : 192 ≠ w' := fun e => by
    rw [← e, ho] at i8
    have e2 := Option.some.inj i8
    have e3 : [v] = (cs.getD i cd0).2.2 := by injection e2 with e2; injection e2 with e2; injection e2
    rw [← e3] at i2
    simp at i2
  exact ⟨i1, i2, l, w', i3, i4, i5, i6, (gt_ne _ _ n1).trans i7, (gt_ne _ _ n2).trans i8⟩
theorem Jm_outD (hj : Jm h T C S cs wr th) {v w : List UInt64} (ho : gt h 193 = some (cD v)) : Jm (ut h 193 (cD w)) T C S cs wr th := by
  obtain ⟨m0, m66, ⟨A, m67, l67⟩, ⟨B, m71, l71⟩, hm, hs, ⟨Wd, w1, w2⟩⟩ := hj
  refine ⟨(gt_ne _ _ (by omega)).trans m0, (gt_ne _ _ (by omega)).trans m66, ⟨A, (gt_ne _ _ (by omega)).trans m67, l67⟩, ⟨B, (gt_ne _ _ (by omega)).trans m71, l71⟩, ?_, MS_hi hs (by omega), ⟨Wd, (gt_ne _ _ (by omega)).trans w1, w2⟩⟩
  obtain ⟨K, la, wa, k1, k2, k3, k4, k5, k6, k7⟩ := hm
  refine ⟨K, la, wa, (gt_ne _ _ (by omega)).trans k1, k2, (gt_ne _ _ (by omega)).trans k3, k4, (gt_ne _ _ (by omega)).trans k5, k6, fun i hi => ?_⟩
  obtain ⟨i1, i2, l, w', i3, i4, i5, i6, i7, i8⟩ := k7 i hi
  have n1 : 193 ≠ l := fun e => by rw [← e, ho] at i7; cases i7
  have n2 : 193 ≠ w' := fun e => by rw [← e, ho] at i8; cases i8
  exact ⟨i1, i2, l, w', i3, i4, i5, i6, (gt_ne _ _ n1).trans i7, (gt_ne _ _ n2).trans i8⟩
theorem FI_eq {f : Nat} (hf : FI h f) (e : ∀ a, f ≤ a → a ≤ f + 10 → gt h' a = gt h a) : FI h' f := by
  obtain ⟨⟨ns, nj, f0⟩, ⟨O0, f1⟩, ⟨W0, f3⟩, ⟨P0, f5⟩, ⟨D0, f7⟩, ⟨Ln, f9⟩⟩ := hf
  exact ⟨⟨ns, nj, (e _ (by omega) (by omega)).trans f0⟩, ⟨O0, (e _ (by omega) (by omega)).trans f1⟩, ⟨W0, (e _ (by omega) (by omega)).trans f3⟩, ⟨P0, (e _ (by omega) (by omega)).trans f5⟩, ⟨D0, (e _ (by omega) (by omega)).trans f7⟩, ⟨Ln, (e _ (by omega) (by omega)).trans f9⟩⟩
theorem QI_eq (hq : QI h) (e : ∀ a, 8 ≤ a → a < 65 → gt h' a = gt h a) : QI h' := by
  obtain ⟨q1, ⟨k0, ⟨O, k1⟩, ⟨A, k3, kA⟩, ⟨R, k5⟩, ⟨K, k7⟩⟩, ⟨Le, q3, q4⟩, ⟨Pc, q5⟩⟩ := hq
  exact ⟨FI_eq q1 (fun a _ _ => e a (by omega) (by omega)), ⟨(e _ (by omega) (by omega)).trans k0, ⟨O, (e _ (by omega) (by omega)).trans k1⟩, ⟨A, (e _ (by omega) (by omega)).trans k3, kA⟩, ⟨R, (e _ (by omega) (by omega)).trans k5⟩, ⟨K, (e _ (by omega) (by omega)).trans k7⟩⟩, ⟨Le, (e _ (by omega) (by omega)).trans q3, q4⟩, ⟨Pc, (e _ (by omega) (by omega)).trans q5⟩⟩
theorem GI_eq {G L Wd : List Int} (hg : GI h 28 G L Wd) (e : ∀ a, 28 ≤ a → a ≤ 46 → gt h' a = gt h a) : GI h' 28 G L Wd := by
  obtain ⟨g0, g1, g3, g4, g6, g7, g8⟩ := hg
  exact ⟨(e _ (by omega) (by omega)).trans g0, (e _ (by omega) (by omega)).trans g1, (e _ (by omega) (by omega)).trans g3, (e _ (by omega) (by omega)).trans g4, (e _ (by omega) (by omega)).trans g6, g7, FI_eq g8 (fun a _ _ => e a (by omega) (by omega))⟩
theorem SI_eq (hs : SI h) (e : ∀ a, 8 ≤ a → a < 65 → gt h' a = gt h a) : SI h' := by
  obtain ⟨s1, ⟨G, L, Wd, s2, s3⟩, ⟨F, s4⟩, ⟨x, s5⟩, ⟨y, s6⟩, ⟨z, s7⟩⟩ := hs
  exact ⟨QI_eq s1 e, ⟨G, L, Wd, GI_eq s2 (fun a _ _ => e a (by omega) (by omega)), s3⟩, ⟨F, (e _ (by omega) (by omega)).trans s4⟩, ⟨x, (e _ (by omega) (by omega)).trans s5⟩, ⟨y, (e _ (by omega) (by omega)).trans s6⟩, ⟨z, (e _ (by omega) (by omega)).trans s7⟩⟩
/-- under the costs' steps -/
theorem SI_qq (hs : SI h) (hq : QI h') (f : ∀ a, 28 ≤ a → a < 65 → a ≠ 51 → a ≠ 53 → a ≠ 55 → a ≠ 57 → gt h' a = gt h a) : SI h' := by
  obtain ⟨s1, ⟨G, L, Wd, s2, s3⟩, ⟨F, s4⟩, ⟨x, s5⟩, ⟨y, s6⟩, ⟨z, s7⟩⟩ := hs
  exact ⟨hq, ⟨G, L, Wd, GI_eq s2 (fun a _ _ => f a (by omega) (by omega) (by omega) (by omega) (by omega) (by omega)), s3⟩, ⟨F, (f _ (by omega) (by omega) (by omega) (by omega) (by omega) (by omega)).trans s4⟩, ⟨x, (f _ (by omega) (by omega) (by omega) (by omega) (by omega) (by omega)).trans s5⟩, ⟨y, (f _ (by omega) (by omega) (by omega) (by omega) (by omega) (by omega)).trans s6⟩, ⟨z, (f _ (by omega) (by omega) (by omega) (by omega) (by omega) (by omega)).trans s7⟩⟩
/-- the class's cells stay under the reference's steps -/
theorem Jc_FM (hj : Jc h T C S cs wr) (hn : ∀ a, 65 ≤ a ∧ a ≤ 191 → ∃ d, gt h a = some d ∧ refc d) (hl : 65 ≤ ln h) (f : ∀ a, a < ln h → (a < 65 ∨ 192 ≤ a) → (∃ xs, gt h a = some (cQ 0 xs)) ∨ (∃ k fs, k ≠ 6 ∧ gt h a = some (.inl (k, fs))) ∨ a < 65 → gt h' a = gt h a) : Jc h' T C S cs wr := by
  have e : ∀ a, a < 65 → gt h' a = gt h a := fun a ha => f a (by omega) (.inl ha) (.inr (.inr ha))
  have kO : ∀ {a k : Nat} {fs : List AV}, k ≠ 6 → gt h a = some (.inl (k, fs)) → gt h' a = some (.inl (k, fs)) := fun {a k fs} hk hc => by
    by_cases h1 : a < 65 ∨ 192 ≤ a
    · exact (f a (gt_lt hc) h1 (.inr (.inl ⟨k, fs, hk, hc⟩))).trans hc
    · obtain ⟨d, d1, d2⟩ := hn a (by omega)
      rw [hc] at d1
      exact absurd (d2.2 k fs (Option.some.inj d1).symm) hk
  have kQ : ∀ {a : Nat} {xs : List (Option Nat)}, gt h a = some (cQ 0 xs) → gt h' a = some (cQ 0 xs) := fun {a xs} hc => by
    by_cases h1 : a < 65 ∨ 192 ≤ a
    · exact (f a (gt_lt hc) h1 (.inl ⟨xs, hc⟩)).trans hc
    · obtain ⟨d, d1, d2⟩ := hn a (by omega)
      rw [hc] at d1
      exact absurd (Option.some.inj d1).symm (d2.1 xs)
  obtain ⟨x0, x1, x3, x6, ⟨es, ⟨mc, ed, x5, hl5⟩, c1, c2⟩, hs, ⟨⟨B, b1⟩, ⟨K, b2⟩⟩, ⟨O, x47⟩⟩ := hj
  refine ⟨(e _ (by omega)).trans x0, (e _ (by omega)).trans x1, (e _ (by omega)).trans x3, (e _ (by omega)).trans x6, ⟨es, ⟨mc, ed, (e _ (by omega)).trans x5, ?_⟩, c1, fun i hi => ?_⟩, SI_eq hs (fun a _ h9 => e a h9), ⟨⟨B, (e _ (by omega)).trans b1⟩, ⟨K, (e _ (by omega)).trans b2⟩⟩, ⟨O, (e _ (by omega)).trans x47⟩⟩
  · rcases hl5 with hl5 | ⟨a, xs, y1, y2, y3, y4⟩
    · exact .inl hl5
    · exact .inr ⟨a, xs, y1, y2, kQ y3, y4⟩
  · obtain ⟨⟨d1, d2, d3, d4⟩, d5⟩ := c2 i hi
    exact ⟨⟨d1, kO (by decide) d2, kO (by omega) d3, kO (by omega) d4⟩, d5⟩
/-- all of it -/
def J (h : Hp) (T C S : List Int) (cs : List cdT) (wr : Nat) (th : Int) : Prop := Jc h T C S cs wr ∧ Jm h T C S cs wr th ∧ (∃ v, gt h 192 = some (cL [v])) ∧ (∃ d, gt h 193 = some (cD [d])) ∧ stO T C S cs wr
end
