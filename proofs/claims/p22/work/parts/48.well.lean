/-! Worlds stay well formed -/
def qWN (w : qWd) : Prop := qWW w ∧ w.1.1.Nodup ∧ ∀ a ∈ w.2.1, a.1.Nodup
theorem qPre_tr {a b c : qAS} (h : qPre a b) (g : qPre b c) : qPre a c := ⟨h.1.trans g.1, h.2.trans g.2⟩
theorem qPush_mem {hs : List qAS} {c x : qAS} (h : x ∈ qPush hs c) : x ∈ hs ∨ x = c := by
  unfold qPush at h
  split at h
  · rcases List.mem_append.mp h with h | h
    · exact Or.inl h
    · exact Or.inr (List.mem_singleton.mp h)
  · rcases List.mem_append.mp h with h | h
    · exact Or.inl (List.mem_of_mem_tail h)
    · exact Or.inr (List.mem_singleton.mp h)
theorem qPush_5 {hs : List qAS} {c : qAS} (h : hs.length ≤ 5) : (qPush hs c).length ≤ 5 := by
  unfold qPush
  split
  · rw [List.length_append]
    simp only [List.length_cons, List.length_nil]
    omega
  · rw [List.length_append, List.length_tail]
    simp only [List.length_cons, List.length_nil]
    omega
theorem qPush_sub (hs : List qAS) (c : qAS) : (qPush hs c).Sublist (hs ++ [c]) := by
  unfold qPush
  split
  · exact List.Sublist.refl _
  · exact (List.tail_sublist hs).append (List.Sublist.refl _)
theorem qWN_act {w : qWd} (h : qWN w) {a : qAS} {t : List Int} (ha : qWA a) (hn : a.1.Nodup) (hp : qPre w.1 a) (ht : t.length ≤ 80) : qWN (a, qPush w.2.1 w.1, t) := by
  obtain ⟨⟨h1, h2, h3, h4, h5⟩, h6, h7⟩ := h
  refine ⟨⟨ha, fun x hx => ?_, qPush_5 h3, ht, ?_⟩, hn, fun x hx => ?_⟩
  · rcases qPush_mem hx with e | e
    · exact h2 x e
    · exact e ▸ h1
  · show (qPush w.2.1 w.1 ++ [a]).Pairwise qPre
    have hb := List.pairwise_append.mp h5
    refine List.pairwise_append.mpr ⟨h5.sublist (qPush_sub _ _), List.pairwise_singleton _ _, fun x hx y hy => ?_⟩
    rw [List.mem_singleton.mp hy]
    rcases qPush_mem hx with e | e
    · exact qPre_tr (hb.2.2 x e w.1 (List.mem_singleton.mpr rfl)) hp
    · exact e ▸ hp
  · rcases qPush_mem hx with e | e
    · exact h7 x e
    · exact e ▸ h6
theorem qPre_same {a b : qAS} (h1 : a.1 = b.1) (h2 : a.2.1 = b.2.1) : qPre a b := ⟨h1 ▸ List.prefix_refl _, h2 ▸ List.prefix_refl _⟩
theorem gAppend_ok {w : qWd} (h : qWN w) (c : Int) : qWN (gAppend w c) := by
  unfold gAppend
  split
  · exact h
  · obtain ⟨⟨h1, h2, h3, h4, h5⟩, h6, h7⟩ := h
    refine ⟨⟨h1, h2, h3, ?_, h5⟩, h6, h7⟩
    show (w.2.2 ++ [c]).length ≤ 80
    rw [List.length_append]
    simp only [List.length_cons, List.length_nil]
    omega
theorem gClear_ok {w : qWd} (h : qWN w) : qWN (gClear w) := by
  obtain ⟨⟨h1, h2, h3, h4, h5⟩, h6, h7⟩ := h
  exact ⟨⟨h1, h2, h3, Nat.zero_le _, h5⟩, h6, h7⟩
/-- a record is written -/
theorem qWA_set {a : qAS} (h : qWA a) {i : Nat} {e : Int × List Int} (he : qWr a.2.1 e) : qWA (qRc a (a.2.2.2.set i e)) := by
  obtain ⟨h1, h2, h3, h4, h5, h6⟩ := h
  refine ⟨h1, h2, h3, h4, ?_, fun rc hrc => ?_⟩
  · show (a.2.2.2.set i e).length ≤ 30
    rw [List.length_set]
    exact h5
  · rcases List.mem_or_eq_of_mem_set hrc with g | g
    · exact h6 rc g
    · exact g ▸ he
theorem gDiscard_ok {w : qWd} (h : qWN w) (i : Int) : qWN (gDiscard w i) := by
  unfold gDiscard
  split
  · exact h
  · exact qWN_act h (qWA_set h.1.1 ⟨(qMl_of h.1.1).2.2.2.2 i, Or.inl rfl⟩) h.2.1 (qPre_same rfl rfl) h.1.2.2.2.1
theorem gSetBound_ok {w : qWd} (h : qWN w) (b : Int) : qWN (gSetBound w b) := by
  unfold gSetBound
  split
  · rename_i hb
    obtain ⟨h1, h2, h3, h4, h5, h6⟩ := h.1.1
    exact qWN_act h ⟨h1, h2, h3, hb, h5, h6⟩ h.2.1 (qPre_same rfl rfl) h.1.2.2.2.1
  · exact h
theorem gChange_ok {w : qWd} (h : qWN w) (i p v : Int) : qWN (gChange w i p v) := by
  unfold gChange
  split
  · exact h
  · rename_i hb
    have h9 : qAt (qRs w.1) i ≠ -9 := fun e => hb (Or.inl e)
    obtain ⟨q1, q2⟩ := qHas_lt h9
    obtain ⟨i, rfl⟩ : ∃ y : Nat, i = y := ⟨i.toNat, by omega⟩
    have hv : 0 ≤ v ∧ v ≤ 999 := by omega
    refine qWN_act h (qWA_set h.1.1 ⟨?_, ?_⟩) h.2.1 (qPre_same rfl rfl) h.1.2.2.2.1
    · show ((qGet w.1 i).2.set _ v).length ≤ 10
      rw [List.length_set]
      exact (qMl_of h.1.1).2.2.2.2 i
    · have hr := h.1.1.2.2.2.2.2 w.1.2.2.2[i] (List.getElem_mem _)
      rw [qGet_at (by omega)]
      refine hr.2.imp id (fun g => ⟨g.1, g.2.1, ?_, fun x hx => ?_⟩)
      · show ((w.1.2.2.2[i].2.set _ v).length : Int) = _
        rw [List.length_set]
        exact g.2.2.1
      · rcases List.mem_or_eq_of_mem_set hx with e | e
        · exact g.2.2.2 x e
        · exact e ▸ hv
theorem gUndo_ok {w : qWd} (h : qWN w) : qWN (gUndo w) := by
  unfold gUndo
  split
  · exact h
  · rename_i hz
    obtain ⟨⟨h1, h2, h3, h4, h5⟩, h6, h7⟩ := h
    obtain ⟨n, hn⟩ : ∃ n : Nat, w.2.1.length = n + 1 := ⟨w.2.1.length - 1, by omega⟩
    have e9 : w.2.1.length - 1 = n := by omega
    have hg : w.2.1.getD n w.1 = w.2.1[n] := by
      rw [List.getD_eq_getElem?_getD, List.getElem?_eq_getElem (by omega)]
      rfl
    have hm : w.2.1[n] ∈ w.2.1 := List.getElem_mem _
    have hs : w.2.1.take n ++ [w.2.1[n]] = w.2.1 := by
      have e : w.2.1.take (n + 1) = w.2.1 := List.take_of_length_le (by omega)
      rw [List.take_add_one, List.getElem?_eq_getElem (by omega)] at e
      exact e
    rw [e9, hg]
    refine ⟨⟨h2 _ hm, fun a ha => h2 a (List.mem_of_mem_take ha), ?_, h4, ?_⟩, h7 _ hm, fun a ha => h7 a (List.mem_of_mem_take ha)⟩
    · show (w.2.1.take n).length ≤ 5
      rw [List.length_take]
      omega
    · show (w.2.1.take n ++ [w.2.1[n]]).Pairwise qPre
      rw [hs]
      exact (List.pairwise_append.mp h5).1
