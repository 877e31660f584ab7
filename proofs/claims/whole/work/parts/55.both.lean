/-! One call of the law on both objects: the same answer, and both hold the same world behind it -/
variable {m : Nat → Int → Int} {r : Nat → Int → Option Nat}
def qBt (m : Nat → Int → Int) (r : Nat → Int → Option Nat) (w : qWd) : Prop := qCp m r w ∧ qMo m w ∧ qWN w
theorem qCp_fr {m' : Nat → Int → Int} {w : qWd} (h : qCp m r w) (hf : qFr (qIv 176 188) m m') : qCp m' r w := by
  obtain ⟨P, f, vs, hs, rd, l3, g, h1, h2, ⟨h3, h4, h5⟩, h6, h7, h8, h9, h10, h11, h12, h13⟩ := h
  have nn : ∀ a, a < 176 → ¬ qIv 176 188 a := by
    intro a ha e
    have e2 : 176 ≤ a ∧ a < 188 := e
    omega
  exact ⟨P, f, vs, hs, rd, l3, g, h1, h2, ⟨qSc_fr h3 hf (fun a g1 g2 => nn a (by omega)), qSh_fr h4 hf (fun a g1 g2 => nn a (by omega)), h5⟩, h6, qRg_fr h7 hf (fun a g1 g2 => nn a (by omega)), h8, qRw_fr h9 hf (nn _ (by omega)) (nn _ (by omega)), qRw_fr h10 hf (nn _ (by omega)) (nn _ (by omega)), qFm_fr h11 hf (nn _ (by omega)) (nn _ (by omega)) (nn _ (by omega)), qHc_fr h2 h12 hf (fun a g1 g2 => nn a (by omega)), h13⟩
theorem qMo_fr {m' : Nat → Int → Int} {w : qWd} (h : qMo m w) (hf : qFr (qIv 0 176) m m') : qMo m' w := by
  have nn : ∀ a, 176 ≤ a → m' a = m a := by
    intro a ha
    refine hf a (fun e => ?_)
    have e2 : 0 ≤ a ∧ a < 176 := e
    omega
  unfold qMo at h ⊢
  rw [nn 176 (by omega), nn 177 (by omega), nn 178 (by omega), nn 180 (by omega)]
  exact h
def qDo (b1 b2 : Nat) (as : List qA) (m : Nat → Int → Int) (r : Nat → Int → Option Nat) : Prop := ∃ (y : Int) (m1 m2 : Nat → Int → Int) (r1 : Nat → Int → Option Nat) (n1 n2 : Nat) (w' : qWd), qev n1 b1 0 (qent b1 (qK 0 :: as)) [] (qT0, m, r) = some (qI y, (qT0, m1, r1)) ∧ qev n2 b2 0 (qent b2 (qK 176 :: as)) [] (qT0, m1, r1) = some (qI y, (qT0, m2, r1)) ∧ qBt m2 r1 w'
theorem qDo_mk {b1 b2 : Nat} {as L1 L2 : List qA} {w w' : qWd} {y : Int} (e1 : qent b1 (qK 0 :: as) = L1) (e2 : qent b2 (qK 176 :: as) = L2) (hM : qMo m w) (h1 : qW b1 0 L1 [] (qT0, m, r) (fun x σ => ∃ m' r', σ = (qT0, m', r') ∧ x = qI y ∧ qCp m' r' w' ∧ qFr (qIv 0 176) m m')) (h2 : ∀ (m1 : Nat → Int → Int) (r1 : Nat → Int → Option Nat), qE r1 → qMo m1 w → qW b2 0 L2 [] (qT0, m1, r1) (fun x σ => ∃ m', σ = (qT0, m', r1) ∧ x = qI y ∧ qMo m' w' ∧ qFr (qIv 176 188) m1 m')) (hw : qWN w') : qDo b1 b2 as m r := by
  obtain ⟨n1, x1, σ1, g1, m1, r1, rfl, rfl, hC, hF⟩ := h1
  obtain ⟨P, f, vs, hs, rd, l3, g, hC0⟩ := id hC
  obtain ⟨n2, x2, σ2, g2, m2, rfl, rfl, hM2, hF2⟩ := h2 m1 r1 hC0.1 (qMo_fr hM hF)
  exact ⟨y, m1, m2, r1, n1, n2, w', by rw [e1]; exact g1, by rw [e2]; exact g2, qCp_fr hC hF2, hM2, hw⟩
theorem qCl_pure {b : Nat} {L : List qA} {y : Int} {w : qWd} (hC : qCp m r w) (h : qP b L (qT0, m, r) (qI y)) : qW b 0 L [] (qT0, m, r) (fun x σ => ∃ m' r', σ = (qT0, m', r') ∧ x = qI y ∧ qCp m' r' w ∧ qFr (qIv 0 176) m m') := qW_mono h (fun x σ hx => ⟨m, r, hx.2, hx.1, hC, fun a _ => rfl⟩)
theorem qCl_line {b : Nat} {L : List qA} {y : Int} {w : qWd} {P : List (Int × Int)} {f : Nat → Nat} {vs : List Int} {hs : List qSC} {rd : qRd} {g : List Int} (h : qW b 0 L [] (qT0, m, r) (fun x σ => ∃ m', σ = (qT0, m', r) ∧ x = qI y ∧ (∃ l, qCl0 m' r w P f vs hs rd l g) ∧ qFr (qPz 3) m m')) : qW b 0 L [] (qT0, m, r) (fun x σ => ∃ m' r', σ = (qT0, m', r') ∧ x = qI y ∧ qCp m' r' w ∧ qFr (qIv 0 176) m m') := by
  refine qW_mono h (fun x σ hx => ?_)
  obtain ⟨m', e1, e2, ⟨l, hl⟩, hf⟩ := hx
  refine ⟨m', r, e1, e2, ⟨_, _, _, _, _, l, _, hl⟩, fun a ha => hf a (fun e => ha ?_)⟩
  have e3 : a = 3 ∨ a = 4 := e
  exact ⟨by omega, by omega⟩
theorem qMod_pure {b : Nat} {L : List qA} {y : Int} {w : qWd} (hM : qMo m w) (h : qP b L (qT0, m, r) (qI y)) : qW b 0 L [] (qT0, m, r) (fun x σ => ∃ m', σ = (qT0, m', r) ∧ x = qI y ∧ qMo m' w ∧ qFr (qIv 176 188) m m') := qW_mono h (fun x σ hx => ⟨m, hx.2, hx.1, hM, fun a _ => rfl⟩)
theorem qDo_0 {w : qWd} (h : qBt m r w) (c1 : Int) : qDo m_LR_append m_Mo_append [qI c1] m r := by
  obtain ⟨P, f, vs, hs, rd, l3, g, hC0⟩ := id h.1
  exact qDo_mk (L1 := [qK 0, qI c1]) (L2 := [qK 176, qI c1]) (w := w) (w' := gAppend w c1) (y := fAppend w c1) rfl rfl h.2.1 (cLR_append h.1 h.2.2.1) (fun m1 r1 hE hM => mAppend hE hM h.2.2.1) (gAppend_ok h.2.2 c1)
theorem qDo_1 {w : qWd} (h : qBt m r w) : qDo m_LR_clearText m_Mo_clearText [] m r := by
  obtain ⟨P, f, vs, hs, rd, l3, g, hC0⟩ := id h.1
  exact qDo_mk (L1 := [qK 0, none]) (L2 := [qK 176, none]) (w := w) (w' := gClear w) (y := (w.2.2.length : Int)) rfl rfl h.2.1 (cLR_clearText h.1 h.2.2.1) (fun m1 r1 hE hM => mClearText hE hM h.2.2.1) (gClear_ok h.2.2)
theorem qDo_2 {w : qWd} (h : qBt m r w) : qDo m_LR_read m_Mo_read [] m r := by
  obtain ⟨P, f, vs, hs, rd, l3, g, hC0⟩ := id h.1
  exact qDo_mk (L1 := [qK 0, none, none]) (L2 := [qK 176, none, none, none, none, none]) (w := w) (w' := gRead w) (y := fRead w) rfl rfl h.2.1 (cLR_read h.1 h.2.2.1 h.2.2.2.1) (fun m1 r1 hE hM => mRead hE hM h.2.2.1 h.2.2.2.1) (gRead_ok h.2.2)
theorem qDo_3 {w : qWd} (h : qBt m r w) (c1 : Int) : qDo m_LR_discard m_Mo_discard [qI c1] m r := by
  obtain ⟨P, f, vs, hs, rd, l3, g, hC0⟩ := id h.1
  exact qDo_mk (L1 := [qK 0, qI c1]) (L2 := [qK 176, qI c1]) (w := w) (w' := gDiscard w c1) (y := fDiscard w c1) rfl rfl h.2.1 (cLR_discard h.1 h.2.2.1) (fun m1 r1 hE hM => mDiscard hE hM h.2.2.1) (gDiscard_ok h.2.2 c1)
theorem qDo_4 {w : qWd} (h : qBt m r w) (c1 c2 c3 : Int) : qDo m_LR_change m_Mo_change [qI c1, qI c2, qI c3] m r := by
  obtain ⟨P, f, vs, hs, rd, l3, g, hC0⟩ := id h.1
  exact qDo_mk (L1 := [qK 0, qI c1, qI c2, qI c3, none, none]) (L2 := [qK 176, qI c1, qI c2, qI c3, none, none]) (w := w) (w' := gChange w c1 c2 c3) (y := fChange w c1 c2 c3) rfl rfl h.2.1 (cLR_change h.1 h.2.2.1) (fun m1 r1 hE hM => mChange hE hM h.2.2.1) (gChange_ok h.2.2 c1 c2 c3)
theorem qDo_5 {w : qWd} (h : qBt m r w) (c1 c2 : Int) : qDo m_LR_drop m_Mo_drop [qI c1, qI c2] m r := by
  obtain ⟨P, f, vs, hs, rd, l3, g, hC0⟩ := id h.1
  exact qDo_mk (L1 := [qK 0, qI c1, qI c2, none, none]) (L2 := [qK 176, qI c1, qI c2, none, none, none, none, none, none]) (w := w) (w' := gDrop w c1 c2) (y := fDrop w c1 c2) rfl rfl h.2.1 (cLR_drop h.1 h.2.2.1) (fun m1 r1 hE hM => mDrop hE hM h.2.2.1) (gDrop_ok h.2.2 c1 c2)
theorem qDo_6 {w : qWd} (h : qBt m r w) (c1 : Int) : qDo m_LR_setBound m_Mo_setBound [qI c1] m r := by
  obtain ⟨P, f, vs, hs, rd, l3, g, hC0⟩ := id h.1
  exact qDo_mk (L1 := [qK 0, qI c1]) (L2 := [qK 176, qI c1]) (w := w) (w' := gSetBound w c1) (y := fSetBound w c1) rfl rfl h.2.1 (cLR_setBound h.1 h.2.2.1) (fun m1 r1 hE hM => mSetBound hE hM h.2.2.1) (gSetBound_ok h.2.2 c1)
theorem qDo_7 {w : qWd} (h : qBt m r w) : qDo m_LR_undo m_Mo_undo [] m r := by
  obtain ⟨P, f, vs, hs, rd, l3, g, hC0⟩ := id h.1
  exact qDo_mk (L1 := [qK 0]) (L2 := [qK 176]) (w := w) (w' := gUndo w) (y := fUndo w) rfl rfl h.2.1 (cLR_undo h.1 h.2.2.1) (fun m1 r1 hE hM => mUndo hE hM h.2.2.1) (gUndo_ok h.2.2)
theorem qDo_8 {w : qWd} (h : qBt m r w) (c1 : Int) : qDo m_LR_count m_Mo_count [qI c1] m r := by
  obtain ⟨P, f, vs, hs, rd, l3, g, hC0⟩ := id h.1
  exact qDo_mk (L1 := [qK 0, qI c1]) (L2 := [qK 176, qI c1]) (w := w) (w' := w) (y := fCount w c1) rfl rfl h.2.1 (qCl_pure h.1 (cLR_count hC0 h.2.2.1.1)) (fun m1 r1 hE hM => qMod_pure hM (mCount hE hM h.2.2.1)) (h.2.2)
theorem qDo_9 {w : qWd} (h : qBt m r w) (c1 c2 : Int) : qDo m_LR_record m_Mo_record [qI c1, qI c2] m r := by
  obtain ⟨P, f, vs, hs, rd, l3, g, hC0⟩ := id h.1
  exact qDo_mk (L1 := [qK 0, qI c1, qI c2, none]) (L2 := [qK 176, qI c1, qI c2, none]) (w := w) (w' := w) (y := fRecord w c1 c2) rfl rfl h.2.1 (qCl_line (cLR_record hC0 h.2.2.1.1)) (fun m1 r1 hE hM => mRecord hE hM h.2.2.1) (h.2.2)
theorem qDo_10 {w : qWd} (h : qBt m r w) (c1 c2 : Int) : qDo m_LR_character m_Mo_character [qI c1, qI c2] m r := by
  obtain ⟨P, f, vs, hs, rd, l3, g, hC0⟩ := id h.1
  exact qDo_mk (L1 := [qK 0, qI c1, qI c2, none]) (L2 := [qK 176, qI c1, qI c2]) (w := w) (w' := w) (y := fCharacter w c1 c2) rfl rfl h.2.1 (qCl_line (cLR_character hC0 h.2.2.1.1)) (fun m1 r1 hE hM => mCharacter hE hM h.2.2.1) (h.2.2)
theorem qDo_11 {w : qWd} (h : qBt m r w) (c1 c2 : Int) : qDo m_LR_value m_Mo_value [qI c1, qI c2] m r := by
  obtain ⟨P, f, vs, hs, rd, l3, g, hC0⟩ := id h.1
  exact qDo_mk (L1 := [qK 0, qI c1, qI c2, none]) (L2 := [qK 176, qI c1, qI c2, none]) (w := w) (w' := w) (y := fValue w c1 c2) rfl rfl h.2.1 (qCl_pure h.1 (cLR_value hC0 h.2.2.1.1)) (fun m1 r1 hE hM => qMod_pure hM (mValue hE hM h.2.2.1)) (h.2.2)
theorem qDo_12 {w : qWd} (h : qBt m r w) (c1 c2 : Int) : qDo m_LR_path m_Mo_path [qI c1, qI c2] m r := by
  obtain ⟨P, f, vs, hs, rd, l3, g, hC0⟩ := id h.1
  exact qDo_mk (L1 := [qK 0, qI c1, qI c2]) (L2 := [qK 176, qI c1, qI c2]) (w := w) (w' := w) (y := fPath w c1 c2) rfl rfl h.2.1 (qCl_pure h.1 (cLR_path hC0 h.2.2.1.1)) (fun m1 r1 hE hM => qMod_pure hM (mPath hE hM h.2.2.1)) (h.2.2)
theorem qDo_13 {w : qWd} (h : qBt m r w) (c1 c2 : Int) : qDo m_LR_shape m_Mo_shape [qI c1, qI c2] m r := by
  obtain ⟨P, f, vs, hs, rd, l3, g, hC0⟩ := id h.1
  exact qDo_mk (L1 := [qK 0, qI c1, qI c2, none]) (L2 := [qK 176, qI c1, qI c2]) (w := w) (w' := w) (y := fShape w c1 c2) rfl rfl h.2.1 (qCl_line (cLR_shape hC0 h.2.2.1.1)) (fun m1 r1 hE hM => mShape hE hM h.2.2.1) (h.2.2)
theorem qDo_14 {w : qWd} (h : qBt m r w) (c1 c2 c3 : Int) (hk : qin c3) : qDo m_LR_column m_Mo_column [qI c1, qI c2, qI c3] m r := by
  obtain ⟨P, f, vs, hs, rd, l3, g, hC0⟩ := id h.1
  exact qDo_mk (L1 := [qK 0, qI c1, qI c2, qI c3, none]) (L2 := [qK 176, qI c1, qI c2, qI c3, none, none]) (w := w) (w' := w) (y := fColumn w c1 c2 c3) rfl rfl h.2.1 (qCl_pure h.1 (cLR_column hC0 h.2.2.1.1)) (fun m1 r1 hE hM => qMod_pure hM (mColumn hE hM h.2.2.1 hk)) (h.2.2)
theorem qDo_15 {w : qWd} (h : qBt m r w) (c1 c2 : Int) : qDo m_LR_field m_Mo_field [qI c1, qI c2] m r := by
  obtain ⟨P, f, vs, hs, rd, l3, g, hC0⟩ := id h.1
  exact qDo_mk (L1 := [qK 0, qI c1, qI c2, none]) (L2 := [qK 176, qI c1, qI c2]) (w := w) (w' := w) (y := fField w c1 c2) rfl rfl h.2.1 (qCl_pure h.1 (cLR_field hC0 h.2.2.1.1)) (fun m1 r1 hE hM => qMod_pure hM (mField hE hM h.2.2.1)) (h.2.2)
theorem qDo_16 {w : qWd} (h : qBt m r w) (c1 : Int) : qDo m_LR_sizeWith m_Mo_sizeWith [qI c1] m r := by
  obtain ⟨P, f, vs, hs, rd, l3, g, hC0⟩ := id h.1
  exact qDo_mk (L1 := [qK 0, qI c1]) (L2 := [qK 176, qI c1]) (w := w) (w' := w) (y := fSizeWith w c1) rfl rfl h.2.1 (qCl_pure h.1 (cLR_sizeWith hC0 h.2.2.1.1)) (fun m1 r1 hE hM => qMod_pure hM (mSizeWith hE hM h.2.2.1)) (h.2.2)
theorem qDo_17 {w : qWd} (h : qBt m r w) : qDo m_LR_bestBound m_Mo_bestBound [] m r := by
  obtain ⟨P, f, vs, hs, rd, l3, g, hC0⟩ := id h.1
  exact qDo_mk (L1 := [qK 0, none, none, none, none]) (L2 := [qK 176, none, none]) (w := w) (w' := w) (y := fBest w) rfl rfl h.2.1 (qCl_pure h.1 (cLR_bestBound hC0 h.2.2.1.1)) (fun m1 r1 hE hM => qMod_pure hM (mBestBound hE hM.1 (qMl_of h.2.2.1.1) (qRk_of h.2.2.1.1))) (h.2.2)
theorem qDo_18 {w : qWd} (h : qBt m r w) (c1 : Int) : qDo m_LR_like m_Mo_like [qI c1] m r := by
  obtain ⟨P, f, vs, hs, rd, l3, g, hC0⟩ := id h.1
  exact qDo_mk (L1 := [qK 0, qI c1, none, none, none, none, none]) (L2 := [qK 176, qI c1, none, none, none, none, none]) (w := w) (w' := w) (y := fLike w c1) rfl rfl h.2.1 (qCl_pure h.1 (cLR_like hC0 h.2.2.1.1)) (fun m1 r1 hE hM => qMod_pure hM (mLike hE hM.1 (qMl_of h.2.2.1.1) (qRk_of h.2.2.1.1))) (h.2.2)
