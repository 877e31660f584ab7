/-! fails: calls that are refused -/
variable {m : Nat → Int → Int} {r : Nat → Int → Option Nat} {w : qWd}
theorem qNo {i : Int} (h : ¬ (0 ≤ i ∧ i < w.1.2.2.2.length)) : qAt (qRs w.1) i = -9 := qHas_iff w.1 i h
theorem oAppendF (hO : qOb m r w) {c : Int} (h : c < 1 ∨ 255 < c) : qW m_LR_append 0 [qK 0, qI c] [] (qT0, m, r) (qPm m (qI (-1)) w) := by
  have e1 : fAppend w c = -1 := by
    unfold fAppend
    rw [if_pos h]
  have e2 : gAppend w c = w := by
    unfold gAppend
    rw [if_pos (by omega)]
  have h1 := oAppend hO (c := c)
  rw [e1, e2] at h1
  exact h1
theorem oDiscardF (hO : qOb m r w) {i : Int} (h : ¬ (0 ≤ i ∧ i < w.1.2.2.2.length)) : qW m_LR_discard 0 [qK 0, qI i] [] (qT0, m, r) (qPm m (qI (-1)) w) := by
  have e1 : fDiscard w i = -1 := by
    unfold fDiscard
    rw [if_pos (qNo h)]
  have e2 : gDiscard w i = w := by
    unfold gDiscard
    rw [if_pos (qNo h)]
  have h1 := oDiscard hO (i := i)
  rw [e1, e2] at h1
  exact h1
theorem oChangeF (hO : qOb m r w) {i p v : Int} (h : ¬ (0 ≤ i ∧ i < w.1.2.2.2.length) ∨ ¬ (0 ≤ p ∧ p < w.1.1.length) ∨ v < 0 ∨ 999 < v) : qW m_LR_change 0 [qK 0, qI i, qI p, qI v, none, none] [] (qT0, m, r) (qPm m (qI (-1)) w) := by
  have e1 : fChange w i p v = -1 := by
    unfold fChange
    rw [if_pos (h.imp qNo id)]
  have e2 : gChange w i p v = w := by
    unfold gChange
    refine if_pos ?_
    rcases h with h | h | h | h
    · exact Or.inl (qNo h)
    · exact Or.inr (Or.inl h)
    · exact Or.inr (Or.inr (Or.inl h))
    · exact Or.inr (Or.inr (Or.inr (Or.inl h)))
  have h1 := oChange hO (i := i) (p := p) (v := v)
  rw [e1, e2] at h1
  exact h1
theorem oDropF (hO : qOb m r w) {i p : Int} (h : ¬ (0 ≤ i ∧ i < w.1.2.2.2.length) ∨ ¬ (0 ≤ p ∧ p < w.1.1.length)) : qW m_LR_drop 0 [qK 0, qI i, qI p, none, none] [] (qT0, m, r) (qPm m (qI (-1)) w) := by
  have e1 : fDrop w i p = -1 := by
    unfold fDrop
    rw [if_pos (h.imp qNo id)]
  have e2 : gDrop w i p = w := by
    unfold gDrop
    refine if_pos ?_
    rcases h with h | h
    · exact Or.inl (qNo h)
    · exact Or.inr (Or.inl h)
  have h1 := oDrop hO (i := i) (p := p)
  rw [e1, e2] at h1
  exact h1
theorem oSetBoundF (hO : qOb m r w) {b : Int} (h : ¬ (1 ≤ b ∧ b ≤ 10)) : qW m_LR_setBound 0 [qK 0, qI b] [] (qT0, m, r) (qPm m (qI (-1)) w) := by
  have e1 : fSetBound w b = -1 := by
    unfold fSetBound
    rw [if_neg h]
  have e2 : gSetBound w b = w := by
    unfold gSetBound
    rw [if_neg h]
  have h1 := oSetBound hO (b := b)
  rw [e1, e2] at h1
  exact h1
theorem oCountF (hO : qOb m r w) {x : Int} (h : x < 0 ∨ 9 < x) : qW m_LR_count 0 [qK 0, qI x] [] (qT0, m, r) (qPm m (qI (-1)) w) := by
  have e1 : fCount w x = -1 := by
    unfold fCount
    repeat rw [if_neg (by omega)]
  have h1 := oCount hO (x := x)
  rw [e1] at h1
  exact h1
theorem oRecordF (hO : qOb m r w) {i x : Int} (h : ¬ (0 ≤ i ∧ i < w.1.2.2.2.length) ∨ x < 0 ∨ 4 < x) : qW m_LR_record 0 [qK 0, qI i, qI x, none] [] (qT0, m, r) (qPm m (qI (-1)) w) := by
  have e1 : fRecord w i x = -1 := by
    exact fRecord_bad (h.imp qNo id)
  have h1 := oRecord hO (i := i) (x := x)
  rw [e1] at h1
  exact h1
theorem oCharacterF (hO : qOb m r w) {i k : Int} (h : ¬ (0 ≤ i ∧ i < w.1.2.2.2.length) ∨ k < 0) : qW m_LR_character 0 [qK 0, qI i, qI k, none] [] (qT0, m, r) (qPm m (qI (-1)) w) := by
  have e1 : fCharacter w i k = -1 := by
    unfold fCharacter
    rw [if_pos (h.imp qNo id)]
  have h1 := oCharacter hO (i := i) (k := k)
  rw [e1] at h1
  exact h1
theorem oValueF (hO : qOb m r w) {i p : Int} (h : ¬ (0 ≤ i ∧ i < w.1.2.2.2.length) ∨ ¬ (0 ≤ p ∧ p < w.1.1.length)) : qW m_LR_value 0 [qK 0, qI i, qI p, none] [] (qT0, m, r) (qPm m (qI (-1)) w) := by
  have e1 : fValue w i p = -1 := by
    unfold fValue
    rw [if_pos (h.imp qNo id)]
  have h1 := oValue hO (i := i) (p := p)
  rw [e1] at h1
  exact h1
theorem oPathF (hO : qOb m r w) {p x : Int} (h : ¬ (0 ≤ p ∧ p < w.1.1.length) ∨ x < 0 ∨ 5 < x) : qW m_LR_path 0 [qK 0, qI p, qI x] [] (qT0, m, r) (qPm m (qI (-1)) w) := by
  have e1 : fPath w p x = -1 := by
    exact fPath_bad h
  have h1 := oPath hO (p := p) (x := x)
  rw [e1] at h1
  exact h1
theorem oShapeF (hO : qOb m r w) {s x : Int} (h : ¬ (0 ≤ s ∧ s < w.1.2.1.length) ∨ x < 0 ∨ 4 < x) : qW m_LR_shape 0 [qK 0, qI s, qI x, none] [] (qT0, m, r) (qPm m (qI (-1)) w) := by
  have e1 : fShape w s x = -1 := by
    exact fShape_bad h
  have h1 := oShape hO (s := s) (x := x)
  rw [e1] at h1
  exact h1
theorem oColumnF (hO : qOb m r w) {s lf k : Int} (h : ¬ (0 ≤ s ∧ s < w.1.2.1.length) ∨ lf < 0 ∨ k < 0) : qW m_LR_column 0 [qK 0, qI s, qI lf, qI k, none] [] (qT0, m, r) (qPm m (qI (-1)) w) := by
  have e1 : fColumn w s lf k = -1 := by
    unfold fColumn
    rw [if_pos h]
  have h1 := oColumn hO (s := s) (lf := lf) (k := k)
  rw [e1] at h1
  exact h1
theorem oFieldF (hO : qOb m r w) {s k : Int} (h : ¬ (0 ≤ s ∧ s < w.1.2.1.length) ∨ k < 0) : qW m_LR_field 0 [qK 0, qI s, qI k, none] [] (qT0, m, r) (qPm m (qI (-1)) w) := by
  have e1 : fField w s k = -1 := by
    unfold fField
    rw [if_pos h]
  have h1 := oField hO (s := s) (k := k)
  rw [e1] at h1
  exact h1
theorem oSizeWithF (hO : qOb m r w) {b : Int} (h : ¬ (1 ≤ b ∧ b ≤ 10)) : qW m_LR_sizeWith 0 [qK 0, qI b] [] (qT0, m, r) (qPm m (qI (-1)) w) := by
  have e1 : fSizeWith w b = -1 := by
    unfold fSizeWith
    rw [if_neg h]
  have h1 := oSizeWith hO (b := b)
  rw [e1] at h1
  exact h1
theorem oLikeF (hO : qOb m r w) {i : Int} (h : ¬ (0 ≤ i ∧ i < w.1.2.2.2.length)) : qW m_LR_like 0 [qK 0, qI i, none, none, none, none, none] [] (qT0, m, r) (qPm m (qI (-1)) w) := by
  have e1 : fLike w i = -1 := by
    unfold fLike qLike
    rw [if_neg (fun e => e (qNo h))]
  have h1 := oLike hO (i := i)
  rw [e1] at h1
  exact h1
theorem pFails (hO : qOb m r w) : qW m_Lw_fails 0 [qK 0, none, none, none, none, none, none, none] [] (qT0, m, r) (qPo (qI 1) w) := by
  have c1 : fCount w 1 = (w.1.2.2.2.length : Int) := rfl
  have c2 : fCount w 2 = (w.1.1.length : Int) := rfl
  have c3 : fCount w 3 = (w.1.2.1.length : Int) := rfl
  have c8 : fCount w 8 = (w.2.1.length : Int) := rfl
  obtain ⟨b1, b2, b3, b4, b5, b6⟩ := qOb_bd hO
  refine qr_al rfl rfl (w := ?_)
  refine qr_callX rfl (pMark hO) (by rfl) (w := ?_)
  intro m r hO
  refine qr_ls1 rfl (w := ?_)
  refine qr_al rfl rfl (w := ?_)
  refine qr_const rfl (w := ?_)
  refine qr_callX rfl (oCount hO) (qrcv1 kd_0) (w := ?_)
  intro m r ⟨hO, hm⟩
  refine qr_is3 rfl (w := ?_)
  refine qr_al rfl rfl (w := ?_)
  refine qr_const rfl (w := ?_)
  refine qr_callX rfl (oCount hO) (qrcv1 kd_0) (w := ?_)
  intro m r ⟨hO, hm⟩
  refine qr_is4 rfl (w := ?_)
  refine qr_al rfl rfl (w := ?_)
  refine qr_const rfl (w := ?_)
  refine qr_callX rfl (oCount hO) (qrcv1 kd_0) (w := ?_)
  intro m r ⟨hO, hm⟩
  refine qr_is5 rfl (w := ?_)
  refine qr_al rfl rfl (w := ?_)
  refine qr_const rfl (w := ?_)
  refine qr_callX rfl (oCount hO) (qrcv1 kd_0) (w := ?_)
  intro m r ⟨hO, hm⟩
  refine qr_is6 rfl (w := ?_)
  refine qr_al rfl rfl (w := ?_)
  refine qr_const rfl (w := ?_)
  refine qr_callX rfl (oAppendF hO ?_) (qrcv1 kd_0) (w := ?_)
  · omega
  intro m r ⟨hO, hm⟩
  refine qr_const rfl (w := ?_)
  refine qr_icne rfl (fun hc => absurd hc (by omega)) (fun hc => ?_)
  refine qr_al rfl rfl (w := ?_)
  refine qr_const rfl (w := ?_)
  refine qr_callX rfl (oAppendF hO ?_) (qrcv1 kd_0) (w := ?_)
  · omega
  intro m r ⟨hO, hm⟩
  refine qr_const rfl (w := ?_)
  refine qr_icne rfl (fun hcf => absurd hcf (by omega)) (fun hcf => ?_)
  refine qr_al rfl rfl (w := ?_)
  refine qr_il rfl rfl (w := ?_)
  refine qr_callX rfl (oDiscardF hO ?_) (qrcv1 kd_0) (w := ?_)
  · omega
  intro m r ⟨hO, hm⟩
  refine qr_const rfl (w := ?_)
  refine qr_icne rfl (fun hcff => absurd hcff (by omega)) (fun hcff => ?_)
  refine qr_al rfl rfl (w := ?_)
  refine qr_const rfl (w := ?_)
  refine qr_callX rfl (oDiscardF hO ?_) (qrcv1 kd_0) (w := ?_)
  · omega
  intro m r ⟨hO, hm⟩
  refine qr_const rfl (w := ?_)
  refine qr_icne rfl (fun hcfff => absurd hcfff (by omega)) (fun hcfff => ?_)
  refine qr_al rfl rfl (w := ?_)
  refine qr_il rfl rfl (w := ?_)
  refine qr_const rfl (w := ?_)
  refine qr_const rfl (w := ?_)
  refine qr_callX rfl (oChangeF hO ?_) (qrcv1 kd_0) (w := ?_)
  · omega
  intro m r ⟨hO, hm⟩
  refine qr_const rfl (w := ?_)
  refine qr_icne rfl (fun hcffff => absurd hcffff (by omega)) (fun hcffff => ?_)
  refine qr_al rfl rfl (w := ?_)
  refine qr_const rfl (w := ?_)
  refine qr_il rfl rfl (w := ?_)
  refine qr_const rfl (w := ?_)
  refine qr_callX rfl (oChangeF hO ?_) (qrcv1 kd_0) (w := ?_)
  · omega
  intro m r ⟨hO, hm⟩
  refine qr_const rfl (w := ?_)
  refine qr_icne rfl (fun hcfffff => absurd hcfffff (by omega)) (fun hcfffff => ?_)
  refine qr_al rfl rfl (w := ?_)
  refine qr_const rfl (w := ?_)
  refine qr_const rfl (w := ?_)
  refine qr_const rfl (w := ?_)
  refine qr_callX rfl (oChangeF hO ?_) (qrcv1 kd_0) (w := ?_)
  · omega
  intro m r ⟨hO, hm⟩
  refine qr_const rfl (w := ?_)
  refine qr_icne rfl (fun hcffffff => absurd hcffffff (by omega)) (fun hcffffff => ?_)
  refine qr_al rfl rfl (w := ?_)
  refine qr_const rfl (w := ?_)
  refine qr_const rfl (w := ?_)
  refine qr_const rfl (w := ?_)
  refine qr_callX rfl (oChangeF hO ?_) (qrcv1 kd_0) (w := ?_)
  · omega
  intro m r ⟨hO, hm⟩
  refine qr_const rfl (w := ?_)
  refine qr_icne rfl (fun hcfffffff => absurd hcfffffff (by omega)) (fun hcfffffff => ?_)
  refine qr_al rfl rfl (w := ?_)
  refine qr_il rfl rfl (w := ?_)
  refine qr_const rfl (w := ?_)
  refine qr_callX rfl (oDropF hO ?_) (qrcv1 kd_0) (w := ?_)
  · omega
  intro m r ⟨hO, hm⟩
  refine qr_const rfl (w := ?_)
  refine qr_icne rfl (fun hcffffffff => absurd hcffffffff (by omega)) (fun hcffffffff => ?_)
  refine qr_al rfl rfl (w := ?_)
  refine qr_const rfl (w := ?_)
  refine qr_il rfl rfl (w := ?_)
  refine qr_callX rfl (oDropF hO ?_) (qrcv1 kd_0) (w := ?_)
  · omega
  intro m r ⟨hO, hm⟩
  refine qr_const rfl (w := ?_)
  refine qr_icne rfl (fun hcfffffffff => absurd hcfffffffff (by omega)) (fun hcfffffffff => ?_)
  refine qr_al rfl rfl (w := ?_)
  refine qr_const rfl (w := ?_)
  refine qr_callX rfl (oSetBoundF hO ?_) (qrcv1 kd_0) (w := ?_)
  · omega
  intro m r ⟨hO, hm⟩
  refine qr_const rfl (w := ?_)
  refine qr_icne rfl (fun hcffffffffff => absurd hcffffffffff (by omega)) (fun hcffffffffff => ?_)
  refine qr_al rfl rfl (w := ?_)
  refine qr_const rfl (w := ?_)
  refine qr_callX rfl (oSetBoundF hO ?_) (qrcv1 kd_0) (w := ?_)
  · omega
  intro m r ⟨hO, hm⟩
  refine qr_const rfl (w := ?_)
  refine qr_icne rfl (fun hcfffffffffff => absurd hcfffffffffff (by omega)) (fun hcfffffffffff => ?_)
  refine qr_al rfl rfl (w := ?_)
  refine qr_const rfl (w := ?_)
  refine qr_callX rfl (oCountF hO ?_) (qrcv1 kd_0) (w := ?_)
  · omega
  intro m r ⟨hO, hm⟩
  refine qr_const rfl (w := ?_)
  refine qr_icne rfl (fun hcffffffffffff => absurd hcffffffffffff (by omega)) (fun hcffffffffffff => ?_)
  refine qr_al rfl rfl (w := ?_)
  refine qr_const rfl (w := ?_)
  refine qr_callX rfl (oCountF hO ?_) (qrcv1 kd_0) (w := ?_)
  · omega
  intro m r ⟨hO, hm⟩
  refine qr_const rfl (w := ?_)
  refine qr_icne rfl (fun hcfffffffffffff => absurd hcfffffffffffff (by omega)) (fun hcfffffffffffff => ?_)
  refine qr_al rfl rfl (w := ?_)
  refine qr_il rfl rfl (w := ?_)
  refine qr_const rfl (w := ?_)
  refine qr_callX rfl (oRecordF hO ?_) (qrcv1 kd_0) (w := ?_)
  · omega
  intro m r ⟨hO, hm⟩
  refine qr_const rfl (w := ?_)
  refine qr_icne rfl (fun hcffffffffffffff => absurd hcffffffffffffff (by omega)) (fun hcffffffffffffff => ?_)
  refine qr_al rfl rfl (w := ?_)
  refine qr_const rfl (w := ?_)
  refine qr_const rfl (w := ?_)
  refine qr_callX rfl (oRecordF hO ?_) (qrcv1 kd_0) (w := ?_)
  · omega
  intro m r ⟨hO, hm⟩
  refine qr_const rfl (w := ?_)
  refine qr_icne rfl (fun hcfffffffffffffff => absurd hcfffffffffffffff (by omega)) (fun hcfffffffffffffff => ?_)
  refine qr_al rfl rfl (w := ?_)
  refine qr_il rfl rfl (w := ?_)
  refine qr_const rfl (w := ?_)
  refine qr_callX rfl (oCharacterF hO ?_) (qrcv1 kd_0) (w := ?_)
  · omega
  intro m r ⟨hO, hm⟩
  refine qr_const rfl (w := ?_)
  refine qr_icne rfl (fun hcffffffffffffffff => absurd hcffffffffffffffff (by omega)) (fun hcffffffffffffffff => ?_)
  refine qr_al rfl rfl (w := ?_)
  refine qr_const rfl (w := ?_)
  refine qr_const rfl (w := ?_)
  refine qr_callX rfl (oCharacterF hO ?_) (qrcv1 kd_0) (w := ?_)
  · omega
  intro m r ⟨hO, hm⟩
  refine qr_const rfl (w := ?_)
  refine qr_icne rfl (fun hcfffffffffffffffff => absurd hcfffffffffffffffff (by omega)) (fun hcfffffffffffffffff => ?_)
  refine qr_al rfl rfl (w := ?_)
  refine qr_il rfl rfl (w := ?_)
  refine qr_const rfl (w := ?_)
  refine qr_callX rfl (oValueF hO ?_) (qrcv1 kd_0) (w := ?_)
  · omega
  intro m r ⟨hO, hm⟩
  refine qr_const rfl (w := ?_)
  refine qr_icne rfl (fun hcffffffffffffffffff => absurd hcffffffffffffffffff (by omega)) (fun hcffffffffffffffffff => ?_)
  refine qr_al rfl rfl (w := ?_)
  refine qr_const rfl (w := ?_)
  refine qr_il rfl rfl (w := ?_)
  refine qr_callX rfl (oValueF hO ?_) (qrcv1 kd_0) (w := ?_)
  · omega
  intro m r ⟨hO, hm⟩
  refine qr_const rfl (w := ?_)
  refine qr_icne rfl (fun hcfffffffffffffffffff => absurd hcfffffffffffffffffff (by omega)) (fun hcfffffffffffffffffff => ?_)
  refine qr_const rfl (w := ?_)
  refine qr_goto rfl (w := ?_)
  refine qr_is7 rfl (w := ?_)
  refine qr_il rfl rfl (w := ?_)
  refine qr_ifeq rfl (fun hcffffffffffffffffffff => absurd hcffffffffffffffffffff (by omega)) (fun hcffffffffffffffffffff => ?_)
  refine qr_al rfl rfl (w := ?_)
  refine qr_il rfl rfl (w := ?_)
  refine qr_const rfl (w := ?_)
  refine qr_callX rfl (oPathF hO ?_) (qrcv1 kd_0) (w := ?_)
  · omega
  intro m r ⟨hO, hm⟩
  refine qr_const rfl (w := ?_)
  refine qr_icne rfl (fun hcfffffffffffffffffffff => absurd hcfffffffffffffffffffff (by omega)) (fun hcfffffffffffffffffffff => ?_)
  refine qr_al rfl rfl (w := ?_)
  refine qr_const rfl (w := ?_)
  refine qr_const rfl (w := ?_)
  refine qr_callX rfl (oPathF hO ?_) (qrcv1 kd_0) (w := ?_)
  · omega
  intro m r ⟨hO, hm⟩
  refine qr_const rfl (w := ?_)
  refine qr_icne rfl (fun hcffffffffffffffffffffff => absurd hcffffffffffffffffffffff (by omega)) (fun hcffffffffffffffffffffff => ?_)
  refine qr_al rfl rfl (w := ?_)
  refine qr_il rfl rfl (w := ?_)
  refine qr_const rfl (w := ?_)
  refine qr_callX rfl (oShapeF hO ?_) (qrcv1 kd_0) (w := ?_)
  · omega
  intro m r ⟨hO, hm⟩
  refine qr_const rfl (w := ?_)
  refine qr_icne rfl (fun hcfffffffffffffffffffffff => absurd hcfffffffffffffffffffffff (by omega)) (fun hcfffffffffffffffffffffff => ?_)
  refine qr_al rfl rfl (w := ?_)
  refine qr_const rfl (w := ?_)
  refine qr_const rfl (w := ?_)
  refine qr_callX rfl (oShapeF hO ?_) (qrcv1 kd_0) (w := ?_)
  · omega
  intro m r ⟨hO, hm⟩
  refine qr_const rfl (w := ?_)
  refine qr_icne rfl (fun hcffffffffffffffffffffffff => absurd hcffffffffffffffffffffffff (by omega)) (fun hcffffffffffffffffffffffff => ?_)
  refine qr_al rfl rfl (w := ?_)
  refine qr_il rfl rfl (w := ?_)
  refine qr_const rfl (w := ?_)
  refine qr_const rfl (w := ?_)
  refine qr_callX rfl (oColumnF hO ?_) (qrcv1 kd_0) (w := ?_)
  · omega
  intro m r ⟨hO, hm⟩
  refine qr_const rfl (w := ?_)
  refine qr_icne rfl (fun hcfffffffffffffffffffffffff => absurd hcfffffffffffffffffffffffff (by omega)) (fun hcfffffffffffffffffffffffff => ?_)
  refine qr_al rfl rfl (w := ?_)
  refine qr_const rfl (w := ?_)
  refine qr_const rfl (w := ?_)
  refine qr_const rfl (w := ?_)
  refine qr_callX rfl (oColumnF hO ?_) (qrcv1 kd_0) (w := ?_)
  · omega
  intro m r ⟨hO, hm⟩
  refine qr_const rfl (w := ?_)
  refine qr_icne rfl (fun hcffffffffffffffffffffffffff => absurd hcffffffffffffffffffffffffff (by omega)) (fun hcffffffffffffffffffffffffff => ?_)
  refine qr_al rfl rfl (w := ?_)
  refine qr_const rfl (w := ?_)
  refine qr_const rfl (w := ?_)
  refine qr_const rfl (w := ?_)
  refine qr_callX rfl (oColumnF hO ?_) (qrcv1 kd_0) (w := ?_)
  · omega
  intro m r ⟨hO, hm⟩
  refine qr_const rfl (w := ?_)
  refine qr_icne rfl (fun hcfffffffffffffffffffffffffff => absurd hcfffffffffffffffffffffffffff (by omega)) (fun hcfffffffffffffffffffffffffff => ?_)
  refine qr_al rfl rfl (w := ?_)
  refine qr_il rfl rfl (w := ?_)
  refine qr_const rfl (w := ?_)
  refine qr_callX rfl (oFieldF hO ?_) (qrcv1 kd_0) (w := ?_)
  · omega
  intro m r ⟨hO, hm⟩
  refine qr_const rfl (w := ?_)
  refine qr_icne rfl (fun hcffffffffffffffffffffffffffff => absurd hcffffffffffffffffffffffffffff (by omega)) (fun hcffffffffffffffffffffffffffff => ?_)
  refine qr_al rfl rfl (w := ?_)
  refine qr_const rfl (w := ?_)
  refine qr_const rfl (w := ?_)
  refine qr_callX rfl (oFieldF hO ?_) (qrcv1 kd_0) (w := ?_)
  · omega
  intro m r ⟨hO, hm⟩
  refine qr_const rfl (w := ?_)
  refine qr_icne rfl (fun hcfffffffffffffffffffffffffffff => absurd hcfffffffffffffffffffffffffffff (by omega)) (fun hcfffffffffffffffffffffffffffff => ?_)
  refine qr_al rfl rfl (w := ?_)
  refine qr_const rfl (w := ?_)
  refine qr_callX rfl (oSizeWithF hO ?_) (qrcv1 kd_0) (w := ?_)
  · omega
  intro m r ⟨hO, hm⟩
  refine qr_const rfl (w := ?_)
  refine qr_icne rfl (fun hcffffffffffffffffffffffffffffff => absurd hcffffffffffffffffffffffffffffff (by omega)) (fun hcffffffffffffffffffffffffffffff => ?_)
  refine qr_al rfl rfl (w := ?_)
  refine qr_const rfl (w := ?_)
  refine qr_callX rfl (oSizeWithF hO ?_) (qrcv1 kd_0) (w := ?_)
  · omega
  intro m r ⟨hO, hm⟩
  refine qr_const rfl (w := ?_)
  refine qr_icne rfl (fun hcfffffffffffffffffffffffffffffff => absurd hcfffffffffffffffffffffffffffffff (by omega)) (fun hcfffffffffffffffffffffffffffffff => ?_)
  refine qr_al rfl rfl (w := ?_)
  refine qr_il rfl rfl (w := ?_)
  refine qr_callX rfl (oLikeF hO ?_) (qrcv1 kd_0) (w := ?_)
  · omega
  intro m r ⟨hO, hm⟩
  refine qr_const rfl (w := ?_)
  refine qr_icne rfl (fun hcffffffffffffffffffffffffffffffff => absurd hcffffffffffffffffffffffffffffffff (by omega)) (fun hcffffffffffffffffffffffffffffffff => ?_)
  refine qr_al rfl rfl (w := ?_)
  refine qr_const rfl (w := ?_)
  refine qr_callX rfl (oLikeF hO ?_) (qrcv1 kd_0) (w := ?_)
  · omega
  intro m r ⟨hO, hm⟩
  refine qr_const rfl (w := ?_)
  refine qr_icne rfl (fun hcfffffffffffffffffffffffffffffffff => absurd hcfffffffffffffffffffffffffffffffff (by omega)) (fun hcfffffffffffffffffffffffffffffffff => ?_)
  refine qr_const rfl (w := ?_)
  refine qr_goto rfl (w := ?_)
  refine qr_is7 rfl (w := ?_)
  refine qr_il rfl rfl (w := ?_)
  refine qr_ifeq rfl (fun hcffffffffffffffffffffffffffffffffff => absurd hcffffffffffffffffffffffffffffffffff (by omega)) (fun hcffffffffffffffffffffffffffffffffff => ?_)
  refine qr_al rfl rfl (w := ?_)
  refine qr_callX rfl (pMark hO) (by rfl) (w := ?_)
  intro m r hO
  refine qr_ll rfl rfl (w := ?_)
  refine qr_lcmp rfl (w := ?_)
  refine qr_ifne rfl (fun hcfffffffffffffffffffffffffffffffffff => absurd hcfffffffffffffffffffffffffffffffffff (by omega)) (fun hcfffffffffffffffffffffffffffffffffff => ?_)
  refine qr_al rfl rfl (w := ?_)
  refine qr_const rfl (w := ?_)
  refine qr_callX rfl (oCount hO) (qrcv1 kd_0) (w := ?_)
  intro m r ⟨hO, hm⟩
  refine qr_il rfl rfl (w := ?_)
  refine qr_icne rfl (fun hcffffffffffffffffffffffffffffffffffff => absurd hcffffffffffffffffffffffffffffffffffff (by omega)) (fun hcffffffffffffffffffffffffffffffffffff => ?_)
  refine qr_const rfl (w := ?_)
  refine qr_goto rfl (w := ?_)
  refine qW_zreturn rfl (by first | exact Or.inl rfl | exact Or.inr rfl | (simp only [qbi]; split <;> simp)) ?_
  exact ⟨m, r, rfl, rfl, hO⟩
