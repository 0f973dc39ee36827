/-! RUNS THAT END: Px .. P: from here the machine comes to an answer with P -/
theorem zbind_mono {α : Type} {o : Option α} {f g : α → Option Rs} {res : Rs} (k : ∀ x, f x = some res → g x = some res) (hr : o.bind f = some res) : o.bind g = some res := by
  obtain ⟨x, h1, h2⟩ := Option.bind_eq_some_iff.mp hr
  rw [h1]
  exact k x h2
section
variable {scr : List Int} {prog : Nat → Nat → List AI} {mxl : Nat → Nat} {fks : Nat → List Nat}
theorem zbeh_mono {rec rec' : Nat → List AI → Lc → Sk → Hp → Option Rs} (hm : ∀ m c ls st h r, rec m c ls st h = some r → rec' m c ls st h = some r) {m : Nat} {r : List AI} {ls : Lc} {st : Sk} {hs : List Nat} {o res : Rs} (hr : zbeh prog rec m r ls st hs o = some res) : zbeh prog rec' m r ls st hs o = some res := by
  unfold zbeh at hr ⊢
  split at hr
  · exact hm _ _ _ _ _ _ hr
  · split at hr
    · exact hm _ _ _ _ _ _ hr
    · exact hr
theorem zinv_mono {rec rec' : Nat → List AI → Lc → Sk → Hp → Option Rs} (hm : ∀ m c ls st h r, rec m c ls st h = some r → rec' m c ls st h = some r) {m y k : Nat} {r : List AI} {ls : Lc} {st : Sk} {h : Hp} {hs : List Nat} {res : Rs} (hr : zinv prog mxl rec m r ls st h y k hs = some res) : zinv prog mxl rec' m r ls st h y k hs = some res := by
  unfold zinv at hr ⊢
  split at hr
  · rename_i hc
    rw [if_pos hc]
    obtain ⟨o, h1, h2⟩ := Option.bind_eq_some_iff.mp hr
    rw [hm _ _ _ _ _ _ h1]
    exact zbeh_mono hm h2
  · cases hr
set_option maxHeartbeats 8000000 in
theorem zstp_mono {rec rec' : Nat → List AI → Lc → Sk → Hp → Option Rs} (hm : ∀ m c ls st h r, rec m c ls st h = some r → rec' m c ls st h = some r) {m : Nat} {r : List AI} {i : Instr} {x : List Nat} {ls : Lc} {st : Sk} {h : Hp} {res : Rs} (hr : zstp scr prog mxl fks rec m r i x ls st h = some res) : zstp scr prog mxl fks rec' m r i x ls st h = some res := by
  cases i <;> (dsimp only [zstp] at hr ⊢) <;> (repeat' (split at hr)) <;> first
    | (cases hr; done)
    | exact hm _ _ _ _ _ _ hr
    | exact zinv_mono hm hr
    | exact zbind_mono (fun y hy => hm _ _ _ _ _ _ hy) hr
    | exact hr
    | (rw [if_pos (by assumption)]; exact hm _ _ _ _ _ _ hr)
    | (rw [if_neg (by assumption)]; exact hm _ _ _ _ _ _ hr)
    | (rw [if_pos (by assumption)]; exact zinv_mono hm hr)
    | (rw [if_pos (by assumption)]; exact zbind_mono (fun y hy => hm _ _ _ _ _ _ hy) hr)
    | (rw [if_neg (by assumption)]; exact zbind_mono (fun y hy => hm _ _ _ _ _ _ hy) hr)
    | (rw [if_pos (by assumption)]; exact hr)
    | (simp only [*]; exact hm _ _ _ _ _ _ hr)
    | (simp only [*]; exact zbind_mono (fun y hy => hm _ _ _ _ _ _ hy) hr)
    | (rw [if_neg (by assumption), if_pos (by assumption)]; exact hm _ _ _ _ _ _ hr)
    | (rw [if_neg (by assumption), if_neg (by assumption)]; exact hm _ _ _ _ _ _ hr)
theorem zrun_mono : ∀ (n m : Nat) (code : List AI) (ls : Lc) (st : Sk) (h : Hp) (res : Rs), zrun scr prog mxl fks n m code ls st h = some res → zrun scr prog mxl fks (n + 1) m code ls st h = some res
  | 0, m, code, ls, st, h, res, hr => by simp [zrun] at hr
  | n + 1, m, [], ls, st, h, res, hr => by simp [zrun] at hr
  | n + 1, m, (pc, i, x) :: r, ls, st, h, res, hr => by
    simp only [zrun] at hr
    have h1 := zstp_mono (rec' := zrun scr prog mxl fks (n + 1)) (zrun_mono n) hr
    simpa only [zrun] using h1
theorem zrun_add {n : Nat} {m : Nat} {code : List AI} {ls : Lc} {st : Sk} {h : Hp} {res : Rs} (hr : zrun scr prog mxl fks n m code ls st h = some res) : ∀ k, zrun scr prog mxl fks (n + k) m code ls st h = some res
  | 0 => hr
  | k + 1 => zrun_mono _ _ _ _ _ _ _ (zrun_add hr k)
theorem zrun_mono_le {n n' : Nat} (hn : n ≤ n') {m : Nat} {code : List AI} {ls : Lc} {st : Sk} {h : Hp} {res : Rs} (hr : zrun scr prog mxl fks n m code ls st h = some res) : zrun scr prog mxl fks n' m code ls st h = some res := by
  have := zrun_add hr (n' - n)
  rwa [show n + (n' - n) = n' by omega] at this
end
def Px (scr : List Int) (m : Nat) (code : List AI) (ls : Lc) (st : Sk) (h : Hp) (P : Rs → Prop) : Prop := ∃ n res, zrun scr zprog zmxl zfks n m code ls st h = some res ∧ P res
theorem Px.mono {scr : List Int} {m : Nat} {code : List AI} {ls : Lc} {st : Sk} {h : Hp} {P Q : Rs → Prop} (hx : Px scr m code ls st h P) (k : ∀ r, P r → Q r) : Px scr m code ls st h Q := by
  obtain ⟨n, r, h1, h2⟩ := hx
  exact ⟨n, r, h1, k r h2⟩
theorem px_s {scr : List Int} {m m' pc : Nat} {i : Instr} {x : List Nat} {r c' : List AI} {ls ls' : Lc} {st st' : Sk} {h h' : Hp} {P : Rs → Prop} (e : ∀ rec, zstp scr zprog zmxl zfks rec m r i x ls st h = rec m' c' ls' st' h') (k : Px scr m' c' ls' st' h' P) : Px scr m ((pc, i, x) :: r) ls st h P := by
  obtain ⟨n, res, h1, h2⟩ := k
  refine ⟨n + 1, res, ?_, h2⟩
  simp only [zrun]
  rw [e]
  exact h1
theorem px_e {scr : List Int} {m pc : Nat} {i : Instr} {x : List Nat} {r : List AI} {ls : Lc} {st : Sk} {h : Hp} {P : Rs → Prop} {o : Rs} (e : ∀ rec, zstp scr zprog zmxl zfks rec m r i x ls st h = some o) (k : P o) : Px scr m ((pc, i, x) :: r) ls st h P := by
  refine ⟨1, o, ?_, k⟩
  simp only [zrun]
  rw [e]
