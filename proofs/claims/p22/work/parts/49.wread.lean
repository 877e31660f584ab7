/-! A read leaves a well-formed world -/
theorem qWs_pre {ps P : List (Int × Int)} (h : ps <+: P) (hw : qWp ps) {fs : List Int} (hf : qWs ps fs) : qWs P fs := by
  obtain ⟨h1, h2, h3, h4, h5⟩ := hf
  have hl := h.length_le
  have hfl : ∀ f ∈ fs, qPa f < ps.length := fun f hf => (h3 f hf).2.2
  refine ⟨h1, h2, fun f hf => ⟨(h3 f hf).1, (h3 f hf).2.1, by have := hfl f hf; omega⟩, qNs_pre h hw.2 _ _ hfl (by omega) h4, ?_⟩
  rw [qTc_pre h _ _ hfl]
  exact h5
theorem qFs_at (fs : List Int) : ∀ (ss : List (List Int)) (a : Nat), qFs ss fs a < a + ss.length → ss.getD (qFs ss fs a - a) [] = fs := by
  intro ss
  induction ss with
  | nil => intro a h; simp [qFs] at h
  | cons g t ih =>
    intro a h
    simp only [qFs] at h ⊢
    by_cases e : g = fs
    · rw [if_pos e, Nat.sub_self]
      exact e
    · rw [if_neg e] at h ⊢
      have hle := qFs_le t fs (a + 1)
      have h2 := ih (a + 1) (by rw [List.length_cons] at h; omega)
      rw [show qFs t fs (a + 1) - a = qFs t fs (a + 1) - (a + 1) + 1 by omega]
      exact h2
theorem qLs_at {ss : List (List Int)} {fs : List Int} : qGf (qLs ss (qFs ss fs 0) fs) (qFs ss fs 0 : Nat) = fs ∧ qFs ss fs 0 < (qLs ss (qFs ss fs 0) fs).length := by
  have hle := qFs_le ss fs 0
  unfold qLs
  by_cases h : qFs ss fs 0 = ss.length
  · rw [if_pos h, h]
    refine ⟨qGf_last, ?_⟩
    rw [List.length_append]
    simp
  · rw [if_neg h]
    have hlt : qFs ss fs 0 < ss.length := by omega
    refine ⟨?_, hlt⟩
    have h2 := qFs_at fs ss 0 (by omega)
    rw [qGf_at hlt]
    rw [Nat.sub_zero, List.getD_eq_getElem?_getD, List.getElem?_eq_getElem hlt] at h2
    exact h2
theorem qLs_mem {ss : List (List Int)} {fs gs : List Int} {sh : Nat} (h : gs ∈ qLs ss sh fs) : gs ∈ ss ∨ gs = fs := by
  unfold qLs at h
  split at h
  · rcases List.mem_append.mp h with h | h
    · exact Or.inl h
    · exact Or.inr (List.mem_singleton.mp h)
  · exact Or.inl h
theorem qLs_pre (ss : List (List Int)) (sh : Nat) (fs : List Int) : ss <+: qLs ss sh fs := by
  unfold qLs
  split
  · exact List.prefix_append _ _
  · exact List.prefix_refl _
theorem qLs_le40 {ss : List (List Int)} {sh : Nat} {fs : List Int} (h : ss.length ≤ 40) (hs : sh < 40) : (qLs ss sh fs).length ≤ 40 := by
  unfold qLs
  split
  · rw [List.length_append]
    simp only [List.length_cons, List.length_nil]
    omega
  · exact h
/-- records stay well formed when shapes are added -/
theorem qWr_ls {ss : List (List Int)} {sh : Nat} {fs : List Int} {rc : Int × List Int} (h : qWr ss rc) : qWr (qLs ss sh fs) rc := by
  obtain ⟨h1, h2⟩ := h
  refine ⟨h1, h2.imp id (fun g => ⟨g.1, ?_, ?_, g.2.2.2⟩)⟩
  · have := qLs_len ss sh fs
    have := g.2.1
    omega
  · rw [qLs_gf g.2.1]
    exact g.2.2.1
theorem gRead_ok {w : qWd} (h : qWN w) : qWN (gRead w) := by
  unfold gRead
  by_cases hb : ((qRun w).1 < w.2.2.length ∨ (qRun w).2.2.2.2.1 ≠ 7) ∨ (30 ≤ w.1.2.2.2.length ∨ 60 < (qRun w).2.1.length ∨ 40 ≤ qRsh w)
  · rw [if_pos hb]
    exact h
  · rw [if_neg hb]
    have hw := h.1
    have w80 := hw.2.2.2.1
    have hJ0 : qRJ 0 (qSt0 w.1.1) := qRJ_0 hw.1.1 h.2.1
    have hgl := qGo_le w.2.2 (qSt0 w.1.1) 0
    have hgl : (qRun w).1 ≤ 0 + w.2.2.length := hgl.2
    have hg1 : (qRun w).1 = w.2.2.length := by omega
    have hJ := qGo_J w80 w.2.2.length 0 (qSt0 w.1.1) (by omega) hJ0 (by rw [List.drop_zero]; exact hg1)
    rw [List.drop_zero] at hJ
    have hJ : qRJ w.2.2.length (qRun w).2 := hJ
    have hpreP : w.1.1 <+: (qRun w).2.1 := qGo_pre w.2.2 (qSt0 w.1.1) 0
    have hst7 : (qRun w).2.2.2.2.1 = 7 := Classical.byContradiction (fun e => hb (Or.inl (Or.inr e)))
    have hsh0 : qRsh w = qFs w.1.2.1 (qRun w).2.2.1 0 := rfl
    have hP60 : (qRun w).2.1.length ≤ 60 := by omega
    have hs40 : qRsh w < 40 := by omega
    have haR : aRead w = ((qRun w).2.1, qLs w.1.2.1 (qRsh w) (qRun w).2.2.1, w.1.2.2.1, w.1.2.2.2 ++ [(((qRsh w : Nat) : Int), (qRun w).2.2.2.1)]) := rfl
    rw [haR]
    obtain ⟨⟨P, fs, ns, st, lv, op, nm⟩, hR9⟩ : ∃ s, s = (qRun w).2 := ⟨_, rfl⟩
    rw [← hR9] at hJ hpreP hst7 hsh0 hP60 ⊢
    dsimp only at hpreP hst7 hsh0 hP60 ⊢
    subst hst7
    obtain ⟨f1, f2, f3, f4, f5, f6, f7⟩ := qRJ_facts hJ w80
    obtain ⟨⟨j0, j1⟩, j2, j3, j4, -, -, j7, -, j9⟩ := hJ
    dsimp only at j0 j1 j2 j3 j4 j7 j9
    have hwf : qWs P fs := ⟨f5, by omega, fun f hf => ⟨(j2 f hf).1, (j2 f hf).2.1, (j2 f hf).2.2.1⟩, j7.1, by omega⟩
    have hla := qLs_at (ss := w.1.2.1) (fs := fs)
    rw [← hsh0] at hla
    obtain ⟨g1, g2, g3, g4, g5, g6⟩ := hw.1
    refine qWN_act h (a := (P, qLs w.1.2.1 (qRsh w) fs, w.1.2.2.1, w.1.2.2.2 ++ [(((qRsh w : Nat) : Int), ns)])) ⟨⟨hP60, j0⟩, qLs_le40 g2 hs40, fun gs hgs => ?_, g4, ?_, fun rc hrc => ?_⟩ j1 ⟨hpreP, qLs_pre _ _ _⟩ (Nat.zero_le _)
    · rcases qLs_mem hgs with e | e
      · exact qWs_pre hpreP g1 (g3 gs e)
      · exact e ▸ hwf
    · show (w.1.2.2.2 ++ [_]).length ≤ 30
      rw [List.length_append]
      simp only [List.length_cons, List.length_nil]
      omega
    · rcases List.mem_append.mp hrc with e | e
      · exact qWr_ls (g6 rc e)
      · rw [List.mem_singleton.mp e]
        refine ⟨j3.2.1, Or.inr ⟨by dsimp only; omega, by dsimp only; omega, ?_, j3.2.2⟩⟩
        dsimp only
        rw [hla.1]
        exact j3.1
