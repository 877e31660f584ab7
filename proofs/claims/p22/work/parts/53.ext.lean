/-! What is kept beside qWN: no shape stands twice, no path twice in a shape -/
def qSN (a : qAS) : Prop := a.2.1.Nodup ∧ ∀ fs ∈ a.2.1, (fs.map qPa).Nodup
def qXN (w : qWd) : Prop := qWN w ∧ qSN w.1 ∧ ∀ a ∈ w.2.1, qSN a
theorem qXN_act {w : qWd} (h : qXN w) {a : qAS} {t : List Int} (h1 : qWN (a, qPush w.2.1 w.1, t)) (h2 : qSN a) : qXN (a, qPush w.2.1 w.1, t) := by
  refine ⟨h1, h2, fun x hx => ?_⟩
  rcases qPush_mem hx with e | e
  · exact h.2.2 x e
  · exact e ▸ h.2.1
theorem qFs_no (fs : List Int) : ∀ (ss : List (List Int)) (a : Nat), qFs ss fs a = a + ss.length → fs ∉ ss := by
  intro ss
  induction ss with
  | nil => intro a _ h; cases h
  | cons g t ih =>
    intro a h hm
    simp only [qFs, List.length_cons] at h
    by_cases e : g = fs
    · rw [if_pos e] at h
      omega
    · rw [if_neg e] at h
      rcases List.mem_cons.mp hm with h1 | h1
      · exact e h1.symm
      · exact ih (a + 1) (by omega) h1
theorem qSN_ls {a b : qAS} (h : qSN a) {fs : List Int} (hf : (fs.map qPa).Nodup) (e : b.2.1 = qLs a.2.1 (qFs a.2.1 fs 0) fs) : qSN b := by
  unfold qSN
  rw [e]
  unfold qLs
  split
  · rename_i h1
    have h2 := qFs_no fs a.2.1 0 (by omega)
    refine ⟨?_, fun gs hg => ?_⟩
    · rw [List.nodup_append]
      exact ⟨h.1, by simp, fun x hx y hy e => h2 (by rw [List.mem_singleton.mp hy] at e; exact e ▸ hx)⟩
    · rcases List.mem_append.mp hg with h3 | h3
      · exact h.2 gs h3
      · rw [List.mem_singleton.mp h3]
        exact hf
  · exact h
theorem gAppend_x {w : qWd} (h : qXN w) (c : Int) : qXN (gAppend w c) := by
  refine ⟨gAppend_ok h.1 c, ?_⟩
  unfold gAppend
  split
  · exact h.2
  · exact h.2
theorem gClear_x {w : qWd} (h : qXN w) : qXN (gClear w) := ⟨gClear_ok h.1, h.2⟩
theorem gDiscard_x {w : qWd} (h : qXN w) (i : Int) : qXN (gDiscard w i) := by
  have h1 := gDiscard_ok h.1 i
  unfold gDiscard at h1 ⊢
  split
  · exact h
  · rename_i hn
    rw [if_neg hn] at h1
    exact qXN_act h h1 h.2.1
theorem gSetBound_x {w : qWd} (h : qXN w) (b : Int) : qXN (gSetBound w b) := by
  have h1 := gSetBound_ok h.1 b
  unfold gSetBound at h1 ⊢
  split
  · rename_i hn
    rw [if_pos hn] at h1
    exact qXN_act h h1 h.2.1
  · exact h
theorem gChange_x {w : qWd} (h : qXN w) (i p v : Int) : qXN (gChange w i p v) := by
  have h1 := gChange_ok h.1 i p v
  unfold gChange at h1 ⊢
  split
  · exact h
  · rename_i hn
    rw [if_neg hn] at h1
    exact qXN_act h h1 h.2.1
theorem gUndo_x {w : qWd} (h : qXN w) : qXN (gUndo w) := by
  have h1 := gUndo_ok h.1
  unfold gUndo at h1 ⊢
  split
  · exact h
  · rename_i hn
    rw [if_neg hn] at h1
    refine ⟨h1, ?_, fun a ha => h.2.2 a (List.mem_of_mem_take ha)⟩
    refine h.2.2 _ ?_
    rw [List.getD_eq_getElem?_getD, List.getElem?_eq_getElem (by omega)]
    exact List.getElem_mem _
/-- what a good reading leaves -/
theorem qRun_J {w : qWd} (h : qWN w) (hb : (qRun w).1 = w.2.2.length) : qRJ w.2.2.length (qRun w).2 := by
  have hJ0 : qRJ 0 (qSt0 w.1.1) := qRJ_0 h.1.1.1 h.2.1
  have hJ := qGo_J h.1.2.2.2.1 w.2.2.length 0 (qSt0 w.1.1) (by omega) hJ0 (by rw [List.drop_zero]; exact hb)
  rw [List.drop_zero] at hJ
  exact hJ
theorem gRead_x {w : qWd} (h : qXN w) : qXN (gRead w) := by
  have h1 := gRead_ok h.1
  unfold gRead at h1 ⊢
  by_cases hb : ((qRun w).1 < w.2.2.length ∨ (qRun w).2.2.2.2.1 ≠ 7) ∨ (30 ≤ w.1.2.2.2.length ∨ 60 < (qRun w).2.1.length ∨ 40 ≤ qRsh w)
  · rw [if_pos hb]
    exact h
  · rw [if_neg hb] at h1 ⊢
    have hgl := (qGo_le w.2.2 (qSt0 w.1.1) 0).2
    have hgl : (qRun w).1 ≤ 0 + w.2.2.length := hgl
    have hJ := qRun_J h.1 (by omega)
    exact qXN_act h h1 (qSN_ls h.2.1 hJ.2.2.2.1 rfl)
theorem gDrop_x {w : qWd} (h : qXN w) (i p : Int) : qXN (gDrop w i p) := by
  have h1 := gDrop_ok h.1 i p
  unfold gDrop at h1 ⊢
  by_cases hb : qAt (qRs w.1) i = -9 ∨ ¬ (0 ≤ p ∧ p < w.1.1.length) ∨ (¬ (p ∈ qFr' w.1 i) ∧ ¬ (100 + p ∈ qFr' w.1 i)) ∨ 40 ≤ qDsh w.1 i p
  · rw [if_pos hb]
    exact h
  · rw [if_neg hb] at h1 ⊢
    refine qXN_act h h1 (qSN_ls h.2.1 (fs := qRes w.1.1 p (qFr' w.1 i)) ?_ rfl)
    have hf : ((qFr' w.1 i).map qPa).Nodup := by
      unfold qFr'
      by_cases hs : 0 ≤ qAt (qRs w.1) i ∧ qAt (qRs w.1) i < w.1.2.1.length
      · exact h.2.1.2 _ (qGf_mem hs)
      · rw [qGf_out hs]
        exact List.nodup_nil
    exact hf.sublist (List.Sublist.map _ List.filter_sublist)
theorem qXN_gf {a : qAS} (h : qSN a) (s : Int) : ((qGf a.2.1 s).map qPa).Nodup := by
  by_cases hs : 0 ≤ s ∧ s < a.2.1.length
  · exact h.2 _ (qGf_mem hs)
  · rw [qGf_out hs]
    exact List.nodup_nil
