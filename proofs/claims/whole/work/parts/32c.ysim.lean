/-! what the second machine answers, the first does -/
section
variable {scr : List Int} {rec2 : Nat → List AI → Lc → Sk → Hp → Option Rs}
def ysm (scr : List Int) (rec2 : Nat → List AI → Lc → Sk → Hp → Option Rs) : Prop := ∀ (m : Nat) (c : List AI) (ls : Lc) (st : Sk) (h2 h : Hp) (res : Rs), yrep h2 h → rec2 m c ls st h2 = some res → ∃ N h', zrun scr zprog zmxl zfks N m c ls st h = some (res.1, h') ∧ yrep res.2 h'
theorem zinv_sim {m y n : Nat} {r : List AI} {ls : Lc} {st : Sk} {h2 h : Hp} {hs : List Nat} {res : Rs} (hm : ysm scr rec2) (H : yrep h2 h) (hr : zinv zprog zmxl rec2 m r ls st h2 y n hs = some res) : ∃ N h', zinv zprog zmxl (zrun scr zprog zmxl zfks N) m r ls st h y n hs = some (res.1, h') ∧ yrep res.2 h' := by
  unfold zinv at hr ⊢
  split at hr
  · rename_i hc
    obtain ⟨o, h3, h4⟩ := Option.bind_eq_some_iff.mp hr
    obtain ⟨N1, h5, e1, H5⟩ := hm _ _ _ _ _ _ _ H h3
    have key : ∃ N2 h', zbeh zprog (zrun scr zprog zmxl zfks N2) m r ls (st.drop n) hs (o.1, h5) = some (res.1, h') ∧ yrep res.2 h' := by
      unfold zbeh at h4 ⊢
      dsimp only
      split at h4
      · rename_i v hv
        obtain ⟨N2, h', e2, H6⟩ := hm _ _ _ _ _ _ _ H5 h4
        exact ⟨N2, h', e2, H6⟩
      · rename_i e hv
        split at h4
        · rename_i l hl
          obtain ⟨N2, h', e2, H6⟩ := hm _ _ _ _ _ _ _ H5 h4
          exact ⟨N2, h', e2, H6⟩
        · rename_i hl
          split at h4
          · rename_i hn
            cases h4
            exact ⟨0, h5, if_pos hn, H5⟩
          · cases h4
    obtain ⟨N2, h', e2, H6⟩ := key
    refine ⟨N1 + N2, h', ?_, H6⟩
    rw [if_pos hc, zrun_mono_le (n' := N1 + N2) (by omega) e1]
    exact zbeh_mono (fun m c ls st h r hr => zrun_mono_le (by omega) hr) e2
  · cases hr
set_option maxHeartbeats 8000000 in
theorem zstp_sim {m : Nat} {r : List AI} {i : Instr} {x : List Nat} {ls : Lc} {st : Sk} {h2 h : Hp} {res : Rs} (hm : ysm scr rec2) (hk : yok i x = true) (H : yrep h2 h) (hr : zstp scr zprog zmxl zfks rec2 m r i x ls st h2 = some res) : ∃ N h', zstp scr zprog zmxl zfks (zrun scr zprog zmxl zfks N) m r i x ls st h = some (res.1, h') ∧ yrep res.2 h' := by
  cases i with
  | getfield i0 =>
    have hc : x.getD 0 0 < 99 := of_decide_eq_true hk
    dsimp only [zstp] at hr ⊢
    split at hr
    · obtain ⟨v, hv, hz⟩ := Option.bind_eq_some_iff.mp hr
      obtain ⟨N, h', e1, e2⟩ := hm _ _ _ _ _ _ _ H hz
      exact ⟨N, h', by rw [rdF_sim H hc hv]; exact e1, e2⟩
    · cases hr
  | putfield i0 =>
    have hc : x.getD 0 0 < 99 := of_decide_eq_true hk
    dsimp only [zstp] at hr ⊢
    split at hr
    · split at hr
      · rename_i h9
        obtain ⟨v, hv, hz⟩ := Option.bind_eq_some_iff.mp hr
        obtain ⟨h1, hw, H1⟩ := wrF_sim H hc hv
        obtain ⟨N, h', e1, e2⟩ := hm _ _ _ _ _ _ _ H1 hz
        exact ⟨N, h', by rw [if_pos h9, hw]; exact e1, e2⟩
      · cases hr
    · split at hr
      · rename_i h9
        obtain ⟨v, hv, hz⟩ := Option.bind_eq_some_iff.mp hr
        obtain ⟨h1, hw, H1⟩ := wrF_sim H hc hv
        obtain ⟨N, h', e1, e2⟩ := hm _ _ _ _ _ _ _ H1 hz
        exact ⟨N, h', by rw [if_pos h9, hw]; exact e1, e2⟩
      · cases hr
    · split at hr
      · rename_i h9
        obtain ⟨v, hv, hz⟩ := Option.bind_eq_some_iff.mp hr
        obtain ⟨h1, hw, H1⟩ := wrF_sim H hc hv
        obtain ⟨N, h', e1, e2⟩ := hm _ _ _ _ _ _ _ H1 hz
        exact ⟨N, h', by rw [if_pos h9, hw]; exact e1, e2⟩
      · cases hr
    · cases hr
  | new i0 =>
    have hc : x.getD 0 0 < 99 := of_decide_eq_true hk
    dsimp only [zstp] at hr ⊢
    split at hr
    · rename_i h9
      split at hr
      · cases hr
        exact ⟨0, (h.1, h.2 + 1), by rw [if_pos h9], yrep_exc H 1⟩
      · cases hr
    · rename_i h9
      obtain ⟨N, h', e1, e2⟩ := hm _ _ _ _ _ _ _ (yrep_app (l := [cO (x.getD 0 0) (zini (zfks (x.getD 0 0)))]) H (fun c hc9 => by simp at hc9; subst hc9; exact yraw_O _ hc)) hr
      rw [H.1] at e1
      exact ⟨N, h', by rw [if_neg h9]; exact e1, e2⟩
  | checkcast i0 =>
    have hc : x.getD 0 0 < 99 := of_decide_eq_true hk
    dsimp only [zstp] at hr ⊢
    split at hr
    · split at hr
      · rename_i h9
        obtain ⟨N, h', e1, e2⟩ := hm _ _ _ _ _ _ _ H hr
        exact ⟨N, h', by rw [if_pos (zis_sim H hc h9)]; exact e1, e2⟩
      · cases hr
    · cases hr
  | invokevirtual i0 =>
    dsimp only [zstp] at hr ⊢
    split at hr
    · rename_i y n ci hs
      have hc : ci < 99 := of_decide_eq_true hk
      split at hr
      · rename_i h9
        obtain ⟨N, h', e1, e2⟩ := zinv_sim hm H hr
        exact ⟨N, h', by rw [if_pos (zrcv_sim H hc h9)]; exact e1, e2⟩
      · cases hr
    · cases hr
  | invokespecial i0 =>
    dsimp only [zstp] at hr ⊢
    split at hr
    · split at hr
      · obtain ⟨N, h', e1, e2⟩ := hm _ _ _ _ _ _ _ H hr
        exact ⟨N, h', e1, e2⟩
      · cases hr
    · split at hr
      · rename_i h9
        obtain ⟨N, h', e1, e2⟩ := zinv_sim hm H hr
        exact ⟨N, h', by rw [if_pos h9]; exact e1, e2⟩
      · cases hr
    · cases hr
  | invokestatic i0 =>
    dsimp only [zstp] at hr ⊢
    split at hr
    · split at hr
      · split at hr
        · cases hr
        · rename_i h9
          obtain ⟨v, hv, hz⟩ := Option.bind_eq_some_iff.mp hr
          obtain ⟨h1, hw, H1⟩ := zcop_sim H hv
          obtain ⟨N, h', e1, e2⟩ := hm _ _ _ _ _ _ _ H1 hz
          rw [H.1] at e1
          exact ⟨N, h', by rw [if_neg h9, hw]; exact e1, e2⟩
      · cases hr
    · split at hr
      · split at hr
        · cases hr
        · rename_i h9
          obtain ⟨N, h', e1, e2⟩ := hm _ _ _ _ _ _ _ H hr
          exact ⟨N, h', by rw [if_neg h9]; exact e1, e2⟩
      · cases hr
    · obtain ⟨N, h', e1, e2⟩ := zinv_sim hm H hr
      exact ⟨N, h', e1, e2⟩
  | newarray t =>
    dsimp only [zstp] at hr ⊢
    split at hr
    · split at hr
      · rename_i h9
        obtain ⟨N, h', e1, e2⟩ := hm _ _ _ _ _ _ _ (yrep_app (l := [zarr (x.getD 0 0) _]) H (fun c hc9 => by simp at hc9; subst hc9; exact zarr_raw _ _)) hr
        rw [H.1] at e1
        exact ⟨N, h', by rw [if_pos h9]; exact e1, e2⟩
      · cases hr
    · cases hr
  | anewarray t =>
    dsimp only [zstp] at hr ⊢
    split at hr
    · split at hr
      · rename_i h9
        obtain ⟨N, h', e1, e2⟩ := hm _ _ _ _ _ _ _ (yrep_app (l := [cQ (x.getD 0 0) _]) H (fun c hc9 => by simp at hc9; subst hc9; exact yraw_Q _ _)) hr
        rw [H.1] at e1
        exact ⟨N, h', by rw [if_pos h9]; exact e1, e2⟩
      · cases hr
    · cases hr
  | multianewarray t d =>
    dsimp only [zstp] at hr ⊢
    split at hr
    · split at hr
      · rename_i h9
        obtain ⟨N, h', e1, e2⟩ := hm _ _ _ _ _ _ _ (zmul_sim H 2 52 (some 27)) hr
        rw [H.1] at e1
        exact ⟨N, h', by rw [if_pos h9]; exact e1, e2⟩
      · rename_i h8
        split at hr
        · rename_i h9
          obtain ⟨N, h', e1, e2⟩ := hm _ _ _ _ _ _ _ (zmul_sim H 2 52 none) hr
          rw [H.1] at e1
          exact ⟨N, h', by rw [if_neg h8, if_pos h9]; exact e1, e2⟩
        · cases hr
    · split at hr
      · rename_i h9
        obtain ⟨N, h', e1, e2⟩ := hm _ _ _ _ _ _ _ (zmul_sim H 2 52 none) hr
        rw [H.1] at e1
        exact ⟨N, h', by rw [if_pos h9]; exact e1, e2⟩
      · cases hr
    · cases hr
  | iaload =>
    dsimp only [zstp] at hr ⊢
    split at hr
    · obtain ⟨v, hv, hz⟩ := Option.bind_eq_some_iff.mp hr
      obtain ⟨N, h', e1, e2⟩ := hm _ _ _ _ _ _ _ H hz
      exact ⟨N, h', by rw [rdI_sim H hv]; exact e1, e2⟩
    · split at hr
      · rename_i h9
        obtain ⟨v, hv, hz⟩ := Option.bind_eq_some_iff.mp hr
        obtain ⟨N, h', e1, e2⟩ := hm _ _ _ _ _ _ _ H hz
        exact ⟨N, h', by rw [if_pos h9, hv]; exact e1, e2⟩
      · cases hr
    · cases hr
  | caload =>
    dsimp only [zstp] at hr ⊢
    split at hr
    · obtain ⟨v, hv, hz⟩ := Option.bind_eq_some_iff.mp hr
      obtain ⟨N, h', e1, e2⟩ := hm _ _ _ _ _ _ _ H hz
      exact ⟨N, h', by rw [rdI_sim H hv]; exact e1, e2⟩
    · cases hr
  | baload =>
    dsimp only [zstp] at hr ⊢
    split at hr
    · obtain ⟨v, hv, hz⟩ := Option.bind_eq_some_iff.mp hr
      obtain ⟨N, h', e1, e2⟩ := hm _ _ _ _ _ _ _ H hz
      exact ⟨N, h', by rw [rdI_sim H hv]; exact e1, e2⟩
    · cases hr
  | laload =>
    dsimp only [zstp] at hr ⊢
    split at hr
    · obtain ⟨v, hv, hz⟩ := Option.bind_eq_some_iff.mp hr
      obtain ⟨N, h', e1, e2⟩ := hm _ _ _ _ _ _ _ H hz
      exact ⟨N, h', by rw [rdL_sim H hv]; exact e1, e2⟩
    · cases hr
  | daload =>
    dsimp only [zstp] at hr ⊢
    split at hr
    · obtain ⟨v, hv, hz⟩ := Option.bind_eq_some_iff.mp hr
      obtain ⟨N, h', e1, e2⟩ := hm _ _ _ _ _ _ _ H hz
      exact ⟨N, h', by rw [rdD_sim H hv]; exact e1, e2⟩
    · cases hr
  | aaload =>
    dsimp only [zstp] at hr ⊢
    split at hr
    · obtain ⟨v, hv, hz⟩ := Option.bind_eq_some_iff.mp hr
      obtain ⟨N, h', e1, e2⟩ := hm _ _ _ _ _ _ _ H hz
      exact ⟨N, h', by rw [rdQ_sim H hv]; exact e1, e2⟩
    · cases hr
  | iastore =>
    dsimp only [zstp] at hr ⊢
    split at hr
    · obtain ⟨v, hv, hz⟩ := Option.bind_eq_some_iff.mp hr
      obtain ⟨h1, hw, H1⟩ := wrI_sim H hv
      obtain ⟨N, h', e1, e2⟩ := hm _ _ _ _ _ _ _ H1 hz
      exact ⟨N, h', by rw [hw]; exact e1, e2⟩
    · cases hr
  | castore =>
    dsimp only [zstp] at hr ⊢
    split at hr
    · obtain ⟨v, hv, hz⟩ := Option.bind_eq_some_iff.mp hr
      obtain ⟨h1, hw, H1⟩ := wrI_sim H hv
      obtain ⟨N, h', e1, e2⟩ := hm _ _ _ _ _ _ _ H1 hz
      exact ⟨N, h', by rw [hw]; exact e1, e2⟩
    · cases hr
  | bastore =>
    dsimp only [zstp] at hr ⊢
    split at hr
    · split at hr
      · rename_i h9
        obtain ⟨v, hv, hz⟩ := Option.bind_eq_some_iff.mp hr
        obtain ⟨h1, hw, H1⟩ := wrI_sim H hv
        obtain ⟨N, h', e1, e2⟩ := hm _ _ _ _ _ _ _ H1 hz
        exact ⟨N, h', by rw [if_pos h9, hw]; exact e1, e2⟩
      · cases hr
    · cases hr
  | lastore =>
    dsimp only [zstp] at hr ⊢
    split at hr
    · obtain ⟨v, hv, hz⟩ := Option.bind_eq_some_iff.mp hr
      obtain ⟨h1, hw, H1⟩ := wrL_sim H hv
      obtain ⟨N, h', e1, e2⟩ := hm _ _ _ _ _ _ _ H1 hz
      exact ⟨N, h', by rw [hw]; exact e1, e2⟩
    · cases hr
  | dastore =>
    dsimp only [zstp] at hr ⊢
    split at hr
    · obtain ⟨v, hv, hz⟩ := Option.bind_eq_some_iff.mp hr
      obtain ⟨h1, hw, H1⟩ := wrD_sim H hv
      obtain ⟨N, h', e1, e2⟩ := hm _ _ _ _ _ _ _ H1 hz
      exact ⟨N, h', by rw [hw]; exact e1, e2⟩
    · cases hr
  | aastore =>
    dsimp only [zstp] at hr ⊢
    split at hr
    · obtain ⟨v, hv, hz⟩ := Option.bind_eq_some_iff.mp hr
      obtain ⟨h1, hw, H1⟩ := wrQ_sim H hv
      obtain ⟨N, h', e1, e2⟩ := hm _ _ _ _ _ _ _ H1 hz
      exact ⟨N, h', by rw [hw]; exact e1, e2⟩
    · cases hr
  | arraylength =>
    dsimp only [zstp] at hr ⊢
    split at hr
    · obtain ⟨v, hv, hz⟩ := Option.bind_eq_some_iff.mp hr
      obtain ⟨N, h', e1, e2⟩ := hm _ _ _ _ _ _ _ H hz
      exact ⟨N, h', by rw [zlen_sim H hv]; exact e1, e2⟩
    · obtain ⟨N, h', e1, e2⟩ := hm _ _ _ _ _ _ _ H hr
      exact ⟨N, h', e1, e2⟩
    · obtain ⟨N, h', e1, e2⟩ := hm _ _ _ _ _ _ _ H hr
      exact ⟨N, h', e1, e2⟩
    · cases hr
  | _ =>
    all_goals (dsimp only [zstp] at hr ⊢)
    all_goals (repeat' (split at hr))
    all_goals first
      | (cases hr; done)
      | (obtain ⟨N, h', e1, e2⟩ := hm _ _ _ _ _ _ _ H hr; exact ⟨N, h', e1, e2⟩)
      | (obtain ⟨N, h', e1, e2⟩ := hm _ _ _ _ _ _ _ H hr; exact ⟨N, h', (if_pos (by assumption)).trans e1, e2⟩)
      | (obtain ⟨N, h', e1, e2⟩ := hm _ _ _ _ _ _ _ H hr; exact ⟨N, h', (if_neg (by assumption)).trans e1, e2⟩)
      | (obtain ⟨N, h', e1, e2⟩ := hm _ _ _ _ _ _ _ H hr; exact ⟨N, h', by simp only [*]; exact e1, e2⟩)
      | (obtain ⟨y, hy, hz⟩ := Option.bind_eq_some_iff.mp hr; obtain ⟨N, h', e1, e2⟩ := hm _ _ _ _ _ _ _ H hz; exact ⟨N, h', by rw [hy]; exact e1, e2⟩)
      | (obtain ⟨y, hy, hz⟩ := Option.bind_eq_some_iff.mp hr; obtain ⟨N, h', e1, e2⟩ := hm _ _ _ _ _ _ _ H hz; exact ⟨N, h', by simp only [*, Option.bind_some]; exact e1, e2⟩)
      | (cases hr; exact ⟨0, h, rfl, H⟩)
      | (cases hr; exact ⟨0, h, if_pos (by assumption), H⟩)
end
