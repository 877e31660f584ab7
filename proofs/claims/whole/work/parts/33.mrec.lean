/-! The reference's public methods that write a text -/
variable {m : Nat → Int → Int} {r : Nat → Int → Option Nat}
theorem qFr_G {P : Nat → Int → Prop} {m m' : Nat → Int → Int} (h : qG P m m') (e : ∀ a j, P a j → 176 ≤ a ∧ a < 188) : qFr (qIv 176 188) m m' := fun a ha => qG_row h (fun j g => ha (e a j g))
theorem qMo_w {m' : Nat → Int → Int} {w : qWd} (hM : qMo m w) (hG : qG qPw m m') : qMo m' w := by
  obtain ⟨h1, h2, h3, h4, h5⟩ := hM
  have e177 : m' 177 = m 177 := qG_row hG (fun j e => by rcases e with e | e | e <;> omega)
  have e178 : m' 178 = m 178 := qG_row hG (fun j e => by rcases e with e | e | e <;> omega)
  have e180 : m' 180 = m 180 := qG_row hG (fun j e => by rcases e with e | e | e <;> omega)
  refine ⟨e177.symm ▸ h1, ?_, ?_, ?_, ?_⟩
  · rw [hG 176 2 (fun e => by rcases e with e | e | e <;> omega)]; exact h2
  · rw [e178]; exact h3
  · rw [hG 176 5 (fun e => by rcases e with e | e | e <;> omega)]; exact h4
  · rw [e180]; exact h5
theorem qPw_rn : ∀ (a : Nat) (j : Int), qPw a j → 176 ≤ a ∧ a < 188 := fun a j e => by rcases e with e | e | e <;> omega
theorem qNx_eq {a : qAS} {x : Int} (h : x ≠ -9) : qNx a x = qNvA a x := by
  funext lf
  unfold qNx qNvA
  rw [if_neg h]
theorem qNx_no {a : qAS} : qNx a (-9) = fun _ => [] := by
  funext lf
  unfold qNx
  rw [if_pos rfl]
theorem mWrR (h : qE r) {w : qWd} (hM : qMo m w) (hw : qWW w) {i : Int} (h9 : qAt (qRs w.1) i ≠ -9) : qW m_Mo_writesAll 0 [qK 176, qI (qAt (qRs w.1) i), qI i, none, none, none, none, none] [] (qT0, m, r) (fun _ σ => ∃ m', σ = (qT0, m', r) ∧ qWt m' (qText w.1.1 (qNvA w.1 i) (qFr' w.1 i)) ∧ qMo m' w ∧ qG qPw m m' ∧ (qText w.1.1 (qNvA w.1 i) (qFr' w.1 i)).length ≤ 100) := by
  have hB := hM.1
  have hl := qMl_of hw.1
  have hR := qRk_of hw.1
  have hV := qRv_of hw.1
  have hrl := qRs_len w.1
  obtain ⟨⟨b0, b1, b2, b3⟩, bp, bs, br⟩ := id hB
  obtain ⟨l1, l2, l3, l4, l5⟩ := id hl
  obtain ⟨-, mh, mp, mt, mx⟩ := id hM
  have w5 := hw.2.2.1
  have w80 := hw.2.2.2.1
  have wb := hw.1.2.2.2.1
  have hi := qHas_lt h9
  have hRi := hR i
  obtain ⟨v1, v2⟩ := hV i h9
  have hfe : qGf w.1.2.1 (qAt (qRs w.1) i) = qFr' w.1 i := rfl
  obtain ⟨i', rfl⟩ : ∃ y : Nat, i = y := ⟨i.toNat, by omega⟩
  have hfit := qTextFit hw.1 (i := i') (by omega) h9
  have h1 := mWritesAll (x := (i' : Int)) (s := qAt (qRs w.1) i') h hB hl (by omega) (qWs_gf hw.1 _) l1 (Or.inr ⟨hi, fun lf g0 g1 => ⟨by rw [hfe] at g1; omega, v2 lf g0 g1⟩⟩) (by rw [qNx_eq (by omega), hfe]; omega)
  rw [qNx_eq (by omega), hfe] at h1
  refine qW_mono h1 (fun _ σ hσ => ?_)
  obtain ⟨m1, rfl, hT1, hG1⟩ := hσ
  exact ⟨m1, rfl, hT1, qMo_w hM hG1, hG1, hfit⟩
theorem mWrS (h : qE r) {w : qWd} (hM : qMo m w) (hw : qWW w) {s : Int} (hs : 0 ≤ s ∧ s < w.1.2.1.length) : qW m_Mo_writesAll 0 [qK 176, qI s, qI (-9), none, none, none, none, none] [] (qT0, m, r) (fun _ σ => ∃ m', σ = (qT0, m', r) ∧ qWt m' (qText w.1.1 (fun _ => []) (qGf w.1.2.1 s)) ∧ qMo m' w ∧ qG qPw m m') := by
  have hB := hM.1
  have hl := qMl_of hw.1
  have hR := qRk_of hw.1
  have hV := qRv_of hw.1
  have hrl := qRs_len w.1
  obtain ⟨⟨b0, b1, b2, b3⟩, bp, bs, br⟩ := id hB
  obtain ⟨l1, l2, l3, l4, l5⟩ := id hl
  obtain ⟨-, mh, mp, mt, mx⟩ := id hM
  have w5 := hw.2.2.1
  have w80 := hw.2.2.2.1
  have wb := hw.1.2.2.2.1
  have hfit := qText_fit hw.1.1 (qWs_gf hw.1 s) (nv := fun _ => []) (fun j _ _ => ⟨fun c hc => by simp at hc, by simp⟩)
  have h1 := mWritesAll (x := (-9 : Int)) (s := s) h hB hl hs (qWs_gf hw.1 _) l1 (Or.inl rfl) (by rw [qNx_no]; omega)
  rw [qNx_no] at h1
  refine qW_mono h1 (fun _ σ hσ => ?_)
  obtain ⟨m1, rfl, hT1, hG1⟩ := hσ
  exact ⟨m1, rfl, hT1, qMo_w hM hG1, hG1⟩
theorem fRecord_bad {w : qWd} {i x : Int} (h : qAt (qRs w.1) i = -9 ∨ x < 0 ∨ 4 < x) : fRecord w i x = -1 := by
  unfold fRecord
  by_cases h9 : qAt (qRs w.1) i = -9
  · rw [if_pos h9]
  · rw [if_neg h9, if_neg (by omega), if_neg (by omega), if_neg (by omega), if_neg (by omega), if_neg (by omega)]
theorem fShape_bad {w : qWd} {s x : Int} (h : ¬ (0 ≤ s ∧ s < w.1.2.1.length) ∨ x < 0 ∨ 4 < x) : fShape w s x = -1 := by
  unfold fShape
  by_cases h9 : 0 ≤ s ∧ s < w.1.2.1.length
  · rw [if_neg (fun e => e h9), if_neg (by omega), if_neg (by omega), if_neg (by omega), if_neg (by omega), if_neg (by omega)]
  · rw [if_pos h9]
theorem mCharacter (h : qE r) {w : qWd} (hM : qMo m w) (hw : qWW w) {i k : Int} : qW m_Mo_character 0 [qK 176, qI i, qI k] [] (qT0, m, r) (fun y σ => ∃ m', σ = (qT0, m', r) ∧ y = qI (fCharacter w i k) ∧ qMo m' (w) ∧ qFr (qIv 176 188) m m') := by
  have hB := hM.1
  have hl := qMl_of hw.1
  have hR := qRk_of hw.1
  have hV := qRv_of hw.1
  have hrl := qRs_len w.1
  obtain ⟨⟨b0, b1, b2, b3⟩, bp, bs, br⟩ := id hB
  obtain ⟨l1, l2, l3, l4, l5⟩ := id hl
  obtain ⟨-, mh, mp, mt, mx⟩ := id hM
  have w5 := hw.2.2.1
  have w80 := hw.2.2.2.1
  have wb := hw.1.2.2.2.1
  unfold fCharacter
  refine qr_al rfl rfl (w := ?_)
  refine qr_il rfl rfl (w := ?_)
  refine qr_callP rfl (mIsRecord h hB hl) (qrcv1 kd_176) (w := ?_)
  refine qr_ifeqB rfl (fun hc => ?_) (fun hc => ?_)
  · refine qr_const rfl (w := ?_)
    refine qW_ireturn rfl ⟨m, rfl, congrArg qI ?_, hM, qFr_rf⟩
    rw [if_pos]
    simp only [decide_eq_true_eq, decide_eq_false_iff_not, ne_eq, Decidable.not_not] at *
    omega
  · refine qr_il rfl rfl (w := ?_)
    refine qr_ifge rfl (fun hcf => ?_) (fun hcf => ?_)
    · refine qr_al rfl rfl (w := ?_)
      refine qr_al rfl rfl (w := ?_)
      refine qr_il rfl rfl (w := ?_)
      have h9 := of_decide_eq_true hc
      have hi := qHas_lt h9
      refine qr_callP rfl (mShapeOf (i := i) h hB hl hi) (qrcv1 kd_176) (w := ?_)
      refine qr_il rfl rfl (w := ?_)
      refine qr_callV rfl (mWrR h hM hw h9) (qrcv1 kd_176) (w := fun _ σ hσ => ?_)
      obtain ⟨m1, rfl, hT1, hM1, hG1, hfit⟩ := hσ
      have e7 := hT1.1
      refine qr_il rfl rfl (w := ?_)
      refine qr_al rfl rfl (w := ?_)
      refine qr_gi rfl kd_176 (w := ?_)
      refine qr_icge rfl (fun hcft => ?_) (fun hcft => ?_)
      · refine qr_const rfl (w := ?_)
        refine qW_ireturn rfl ?_
        refine ⟨m1, rfl, congrArg qI ?_, hM1, qFr_G hG1 qPw_rn⟩
        rw [if_neg (by omega)]
        unfold qAt
        first
          | (rw [if_neg (by omega)]; done)
          | (obtain ⟨k, rfl⟩ : ∃ y : Nat, k = y := ⟨k.toNat, by omega⟩
             rw [if_pos ⟨by omega, by omega⟩, Int.toNat_natCast]
             exact hT1.2 k (by omega))
      · refine qr_al rfl rfl (w := ?_)
        refine qr_gr rfl kd_176 (hr := (rf_8_6 h)) (w := ?_)
        refine qr_il rfl rfl (w := ?_)
        refine qr_ia rfl kd_181 (by omega) (w := ?_)
        refine qr_goto rfl (w := ?_)
        refine qW_ireturn rfl ?_
        refine ⟨m1, rfl, congrArg qI ?_, hM1, qFr_G hG1 qPw_rn⟩
        rw [if_neg (by omega)]
        unfold qAt
        first
          | (rw [if_neg (by omega)]; done)
          | (obtain ⟨k, rfl⟩ : ∃ y : Nat, k = y := ⟨k.toNat, by omega⟩
             rw [if_pos ⟨by omega, by omega⟩, Int.toNat_natCast]
             exact hT1.2 k (by omega))
    · refine qr_const rfl (w := ?_)
      refine qW_ireturn rfl ⟨m, rfl, congrArg qI ?_, hM, qFr_rf⟩
      rw [if_pos]
      simp only [decide_eq_true_eq, decide_eq_false_iff_not, ne_eq, Decidable.not_not] at *
      omega
theorem mRecord (h : qE r) {w : qWd} (hM : qMo m w) (hw : qWW w) {i x : Int} : qW m_Mo_record 0 [qK 176, qI i, qI x, none] [] (qT0, m, r) (fun y σ => ∃ m', σ = (qT0, m', r) ∧ y = qI (fRecord w i x) ∧ qMo m' (w) ∧ qFr (qIv 176 188) m m') := by
  have hB := hM.1
  have hl := qMl_of hw.1
  have hR := qRk_of hw.1
  have hV := qRv_of hw.1
  have hrl := qRs_len w.1
  obtain ⟨⟨b0, b1, b2, b3⟩, bp, bs, br⟩ := id hB
  obtain ⟨l1, l2, l3, l4, l5⟩ := id hl
  obtain ⟨-, mh, mp, mt, mx⟩ := id hM
  have w5 := hw.2.2.1
  have w80 := hw.2.2.2.1
  have wb := hw.1.2.2.2.1
  by_cases hb : qAt (qRs w.1) i = -9 ∨ x < 0 ∨ 4 < x
  · rw [fRecord_bad hb]
    refine qr_al rfl rfl (w := ?_)
    refine qr_il rfl rfl (w := ?_)
    refine qr_callP rfl (mIsRecord h hB hl) (qrcv1 kd_176) (w := ?_)
    refine qr_ifeqB rfl (fun hc => ?_) (fun hc => ?_)
    · refine qr_const rfl (w := ?_)
      refine qW_ireturn rfl ?_
      exact ⟨m, rfl, rfl, hM, qFr_rf⟩
    · refine qr_il rfl rfl (w := ?_)
      refine qr_const rfl (w := ?_)
      refine qr_const rfl (w := ?_)
      refine qr_callP rfl mIn rfl (w := ?_)
      refine qr_ifneB rfl (fun hcf => ?_) (fun hcf => ?_)
      · exfalso
        simp only [decide_eq_true_eq, decide_eq_false_iff_not, ne_eq, Decidable.not_not] at *
        omega
      · refine qr_const rfl (w := ?_)
        refine qW_ireturn rfl ?_
        exact ⟨m, rfl, rfl, hM, qFr_rf⟩
  · have h9 : qAt (qRs w.1) i ≠ -9 := fun e => hb (Or.inl e)
    have hi := qHas_lt h9
    have hRi := hR i
    have hsi : 0 ≤ qAt (qRs w.1) i ∧ qAt (qRs w.1) i < w.1.2.1.length := by omega
    have hx : x = 0 ∨ x = 1 ∨ x = 2 ∨ x = 3 ∨ x = 4 := by omega
    have hlv := qLv_le (qFr' w.1 i)
    have hl3 := l3 (qAt (qRs w.1) i)
    have hfe : qGf w.1.2.1 (qAt (qRs w.1) i) = qFr' w.1 i := rfl
    rw [hfe] at hl3
    unfold fRecord
    rw [if_neg h9]
    rcases hx with rfl | rfl | rfl | rfl | rfl
    · rw [if_pos rfl]
      refine qr_al rfl rfl (w := ?_)
      refine qr_il rfl rfl (w := ?_)
      refine qr_callP rfl (mIsRecord h hB hl) (qrcv1 kd_176) (w := ?_)
      refine qr_ifeqB rfl (fun hc => absurd h9 (of_decide_eq_false hc)) (fun hc => ?_)
      refine qr_il rfl rfl (w := ?_)
      refine qr_const rfl (w := ?_)
      refine qr_const rfl (w := ?_)
      refine qr_callP rfl mIn rfl (w := ?_)
      refine qr_ifneB rfl (fun hcf => ?_) (fun hcf => absurd hcf (by decide))
      refine qr_al rfl rfl (w := ?_)
      refine qr_il rfl rfl (w := ?_)
      refine qr_callP rfl (mShapeOf (i := i) h hB hl hi) (qrcv1 kd_176) (w := ?_)
      refine qr_is3 rfl (w := ?_)
      refine qr_il rfl rfl (w := ?_)
      refine qr_const rfl (w := ?_)
      refine qr_icne rfl (fun hcft => ?_) (fun hcft => absurd hcft (by decide))
      refine qr_il rfl rfl (w := ?_)
      refine qr_ifne rfl (fun hcftt => absurd hcftt (by decide)) (fun hcftt => ?_)
      refine qr_il rfl rfl (w := ?_)
      refine qr_goto rfl (w := ?_)
      refine qW_ireturn rfl ?_
      exact ⟨m, rfl, rfl, hM, qFr_rf⟩
    · rw [if_neg (by decide)]
      rw [if_pos rfl]
      refine qr_al rfl rfl (w := ?_)
      refine qr_il rfl rfl (w := ?_)
      refine qr_callP rfl (mIsRecord h hB hl) (qrcv1 kd_176) (w := ?_)
      refine qr_ifeqB rfl (fun hc => absurd h9 (of_decide_eq_false hc)) (fun hc => ?_)
      refine qr_il rfl rfl (w := ?_)
      refine qr_const rfl (w := ?_)
      refine qr_const rfl (w := ?_)
      refine qr_callP rfl mIn rfl (w := ?_)
      refine qr_ifneB rfl (fun hcf => ?_) (fun hcf => absurd hcf (by decide))
      refine qr_al rfl rfl (w := ?_)
      refine qr_il rfl rfl (w := ?_)
      refine qr_callP rfl (mShapeOf (i := i) h hB hl hi) (qrcv1 kd_176) (w := ?_)
      refine qr_is3 rfl (w := ?_)
      refine qr_il rfl rfl (w := ?_)
      refine qr_const rfl (w := ?_)
      refine qr_icne rfl (fun hcft => ?_) (fun hcft => absurd hcft (by decide))
      refine qr_il rfl rfl (w := ?_)
      refine qr_ifne rfl (fun hcftt => ?_) (fun hcftt => absurd hcftt (by decide))
      refine qr_il rfl rfl (w := ?_)
      refine qr_const rfl (w := ?_)
      refine qr_icne rfl (fun hcfttt => absurd hcfttt (by decide)) (fun hcfttt => ?_)
      refine qr_al rfl rfl (w := ?_)
      refine qr_il rfl rfl (w := ?_)
      refine qr_callP rfl (mLeavesOf (s := qAt (qRs w.1) i) h hB hl hsi) (qrcv1 kd_176) (w := ?_)
      refine qr_goto rfl (w := ?_)
      refine qW_ireturn rfl ?_
      exact ⟨m, rfl, rfl, hM, qFr_rf⟩
    · rw [if_neg (by decide)]
      rw [if_neg (by decide)]
      rw [if_pos rfl]
      refine qr_al rfl rfl (w := ?_)
      refine qr_il rfl rfl (w := ?_)
      refine qr_callP rfl (mIsRecord h hB hl) (qrcv1 kd_176) (w := ?_)
      refine qr_ifeqB rfl (fun hc => absurd h9 (of_decide_eq_false hc)) (fun hc => ?_)
      refine qr_il rfl rfl (w := ?_)
      refine qr_const rfl (w := ?_)
      refine qr_const rfl (w := ?_)
      refine qr_callP rfl mIn rfl (w := ?_)
      refine qr_ifneB rfl (fun hcf => ?_) (fun hcf => absurd hcf (by decide))
      refine qr_al rfl rfl (w := ?_)
      refine qr_il rfl rfl (w := ?_)
      refine qr_callP rfl (mShapeOf (i := i) h hB hl hi) (qrcv1 kd_176) (w := ?_)
      refine qr_is3 rfl (w := ?_)
      refine qr_il rfl rfl (w := ?_)
      refine qr_const rfl (w := ?_)
      refine qr_icne rfl (fun hcft => ?_) (fun hcft => absurd hcft (by decide))
      refine qr_il rfl rfl (w := ?_)
      refine qr_ifne rfl (fun hcftt => ?_) (fun hcftt => absurd hcftt (by decide))
      refine qr_il rfl rfl (w := ?_)
      refine qr_const rfl (w := ?_)
      refine qr_icne rfl (fun hcfttt => ?_) (fun hcfttt => absurd hcfttt (by decide))
      refine qr_il rfl rfl (w := ?_)
      refine qr_const rfl (w := ?_)
      refine qr_icne rfl (fun hcftttt => absurd hcftttt (by decide)) (fun hcftttt => ?_)
      refine qr_al rfl rfl (w := ?_)
      refine qr_il rfl rfl (w := ?_)
      refine qr_callP rfl (mBranchesOf (s := qAt (qRs w.1) i) h hB hl hsi) (qrcv1 kd_176) (w := ?_)
      refine qr_goto rfl (w := ?_)
      refine qW_ireturn rfl ?_
      exact ⟨m, rfl, rfl, hM, qFr_rf⟩
    · rw [if_neg (by decide)]
      rw [if_neg (by decide)]
      rw [if_neg (by decide)]
      rw [if_pos rfl]
      refine qr_al rfl rfl (w := ?_)
      refine qr_il rfl rfl (w := ?_)
      refine qr_callP rfl (mIsRecord h hB hl) (qrcv1 kd_176) (w := ?_)
      refine qr_ifeqB rfl (fun hc => absurd h9 (of_decide_eq_false hc)) (fun hc => ?_)
      refine qr_il rfl rfl (w := ?_)
      refine qr_const rfl (w := ?_)
      refine qr_const rfl (w := ?_)
      refine qr_callP rfl mIn rfl (w := ?_)
      refine qr_ifneB rfl (fun hcf => ?_) (fun hcf => absurd hcf (by decide))
      refine qr_al rfl rfl (w := ?_)
      refine qr_il rfl rfl (w := ?_)
      refine qr_callP rfl (mShapeOf (i := i) h hB hl hi) (qrcv1 kd_176) (w := ?_)
      refine qr_is3 rfl (w := ?_)
      refine qr_il rfl rfl (w := ?_)
      refine qr_const rfl (w := ?_)
      refine qr_icne rfl (fun hcft => absurd hcft (by decide)) (fun hcft => ?_)
      refine qr_al rfl rfl (w := ?_)
      refine qr_il rfl rfl (w := ?_)
      refine qr_il rfl rfl (w := ?_)
      refine qr_callV rfl (mWrR h hM hw h9) (qrcv1 kd_176) (w := fun _ σ hσ => ?_)
      obtain ⟨m1, rfl, hT1, hM1, hG1, hfit⟩ := hσ
      refine qr_il rfl rfl (w := ?_)
      refine qr_ifne rfl (fun hcftf => ?_) (fun hcftf => absurd hcftf (by decide))
      refine qr_il rfl rfl (w := ?_)
      refine qr_const rfl (w := ?_)
      refine qr_icne rfl (fun hcftft => ?_) (fun hcftft => absurd hcftft (by decide))
      refine qr_il rfl rfl (w := ?_)
      refine qr_const rfl (w := ?_)
      refine qr_icne rfl (fun hcftftt => ?_) (fun hcftftt => absurd hcftftt (by decide))
      refine qr_il rfl rfl (w := ?_)
      refine qr_const rfl (w := ?_)
      refine qr_icne rfl (fun hcftfttt => absurd hcftfttt (by decide)) (fun hcftfttt => ?_)
      refine qr_al rfl rfl (w := ?_)
      refine qr_gi rfl kd_176 (w := ?_)
      refine qr_goto rfl (w := ?_)
      refine qW_ireturn rfl ?_
      exact ⟨m1, rfl, congrArg qI (hT1.1), hM1, qFr_G hG1 qPw_rn⟩
    · rw [if_neg (by decide)]
      rw [if_neg (by decide)]
      rw [if_neg (by decide)]
      rw [if_neg (by decide)]
      rw [if_pos rfl]
      refine qr_al rfl rfl (w := ?_)
      refine qr_il rfl rfl (w := ?_)
      refine qr_callP rfl (mIsRecord h hB hl) (qrcv1 kd_176) (w := ?_)
      refine qr_ifeqB rfl (fun hc => absurd h9 (of_decide_eq_false hc)) (fun hc => ?_)
      refine qr_il rfl rfl (w := ?_)
      refine qr_const rfl (w := ?_)
      refine qr_const rfl (w := ?_)
      refine qr_callP rfl mIn rfl (w := ?_)
      refine qr_ifneB rfl (fun hcf => ?_) (fun hcf => absurd hcf (by decide))
      refine qr_al rfl rfl (w := ?_)
      refine qr_il rfl rfl (w := ?_)
      refine qr_callP rfl (mShapeOf (i := i) h hB hl hi) (qrcv1 kd_176) (w := ?_)
      refine qr_is3 rfl (w := ?_)
      refine qr_il rfl rfl (w := ?_)
      refine qr_const rfl (w := ?_)
      refine qr_icne rfl (fun hcft => ?_) (fun hcft => absurd hcft (by decide))
      refine qr_il rfl rfl (w := ?_)
      refine qr_ifne rfl (fun hcftt => ?_) (fun hcftt => absurd hcftt (by decide))
      refine qr_il rfl rfl (w := ?_)
      refine qr_const rfl (w := ?_)
      refine qr_icne rfl (fun hcfttt => ?_) (fun hcfttt => absurd hcfttt (by decide))
      refine qr_il rfl rfl (w := ?_)
      refine qr_const rfl (w := ?_)
      refine qr_icne rfl (fun hcftttt => ?_) (fun hcftttt => absurd hcftttt (by decide))
      refine qr_il rfl rfl (w := ?_)
      refine qr_const rfl (w := ?_)
      refine qr_icne rfl (fun hcfttttt => ?_) (fun hcfttttt => absurd hcfttttt (by decide))
      refine qr_al rfl rfl (w := ?_)
      refine qr_il rfl rfl (w := ?_)
      refine qr_callP rfl (mSumOf (i := i) h hB hl hR hV h9) (qrcv1 kd_176) (w := ?_)
      refine qW_ireturn rfl ?_
      exact ⟨m, rfl, rfl, hM, qFr_rf⟩
theorem mShape (h : qE r) {w : qWd} (hM : qMo m w) (hw : qWW w) {s x : Int} : qW m_Mo_shape 0 [qK 176, qI s, qI x] [] (qT0, m, r) (fun y σ => ∃ m', σ = (qT0, m', r) ∧ y = qI (fShape w s x) ∧ qMo m' (w) ∧ qFr (qIv 176 188) m m') := by
  have hB := hM.1
  have hl := qMl_of hw.1
  have hR := qRk_of hw.1
  have hV := qRv_of hw.1
  have hrl := qRs_len w.1
  obtain ⟨⟨b0, b1, b2, b3⟩, bp, bs, br⟩ := id hB
  obtain ⟨l1, l2, l3, l4, l5⟩ := id hl
  obtain ⟨-, mh, mp, mt, mx⟩ := id hM
  have w5 := hw.2.2.1
  have w80 := hw.2.2.2.1
  have wb := hw.1.2.2.2.1
  by_cases hb : ¬ (0 ≤ s ∧ s < w.1.2.1.length) ∨ x < 0 ∨ 4 < x
  · rw [fShape_bad hb]
    refine qr_al rfl rfl (w := ?_)
    refine qr_il rfl rfl (w := ?_)
    refine qr_callP rfl (mIsShape h hB hl) (qrcv1 kd_176) (w := ?_)
    refine qr_ifeqB rfl (fun hc => ?_) (fun hc => ?_)
    · refine qr_const rfl (w := ?_)
      refine qW_ireturn rfl ?_
      exact ⟨m, rfl, rfl, hM, qFr_rf⟩
    · refine qr_il rfl rfl (w := ?_)
      refine qr_const rfl (w := ?_)
      refine qr_const rfl (w := ?_)
      refine qr_callP rfl mIn rfl (w := ?_)
      refine qr_ifneB rfl (fun hcf => ?_) (fun hcf => ?_)
      · exfalso
        simp only [decide_eq_true_eq, decide_eq_false_iff_not, ne_eq, Decidable.not_not] at *
        omega
      · refine qr_const rfl (w := ?_)
        refine qW_ireturn rfl ?_
        exact ⟨m, rfl, rfl, hM, qFr_rf⟩
  · have hs : 0 ≤ s ∧ s < w.1.2.1.length := by omega
    have hx : x = 0 ∨ x = 1 ∨ x = 2 ∨ x = 3 ∨ x = 4 := by omega
    unfold fShape
    rw [if_neg (fun e => e hs)]
    rcases hx with rfl | rfl | rfl | rfl | rfl
    · rw [if_pos rfl]
      refine qr_al rfl rfl (w := ?_)
      refine qr_il rfl rfl (w := ?_)
      refine qr_callP rfl (mIsShape h hB hl) (qrcv1 kd_176) (w := ?_)
      refine qr_ifeqB rfl (fun hc => absurd hs (of_decide_eq_false hc)) (fun hc => ?_)
      refine qr_il rfl rfl (w := ?_)
      refine qr_const rfl (w := ?_)
      refine qr_const rfl (w := ?_)
      refine qr_callP rfl mIn rfl (w := ?_)
      refine qr_ifneB rfl (fun hcf => ?_) (fun hcf => absurd hcf (by decide))
      refine qr_il rfl rfl (w := ?_)
      refine qr_swin rfl (by decide) (t := 52) rfl (w := ?_)
      refine qr_al rfl rfl (w := ?_)
      refine qr_il rfl rfl (w := ?_)
      refine qr_callP rfl (mHaveOf h hB hl) (qrcv1 kd_176) (w := ?_)
      refine qW_ireturn rfl ?_
      exact ⟨m, rfl, rfl, hM, qFr_rf⟩
    · rw [if_neg (by decide)]
      rw [if_pos rfl]
      refine qr_al rfl rfl (w := ?_)
      refine qr_il rfl rfl (w := ?_)
      refine qr_callP rfl (mIsShape h hB hl) (qrcv1 kd_176) (w := ?_)
      refine qr_ifeqB rfl (fun hc => absurd hs (of_decide_eq_false hc)) (fun hc => ?_)
      refine qr_il rfl rfl (w := ?_)
      refine qr_const rfl (w := ?_)
      refine qr_const rfl (w := ?_)
      refine qr_callP rfl mIn rfl (w := ?_)
      refine qr_ifneB rfl (fun hcf => ?_) (fun hcf => absurd hcf (by decide))
      refine qr_il rfl rfl (w := ?_)
      refine qr_swin rfl (by decide) (t := 58) rfl (w := ?_)
      refine qr_al rfl rfl (w := ?_)
      refine qr_il rfl rfl (w := ?_)
      refine qr_al rfl rfl (w := ?_)
      refine qr_gr rfl kd_176 (hr := (rf_8_0 h)) (w := ?_)
      refine qr_const rfl (w := ?_)
      refine qr_ia rfl kd_177 (by omega) (w := ?_)
      rw [b3]
      refine qr_callP rfl (mIsCommon h hB hl) (qrcv1 kd_176) (w := ?_)
      refine qr_ifeqB rfl (fun hcft => ?_) (fun hcft => ?_)
      · refine qr_const rfl (w := ?_)
        refine qW_ireturn rfl ?_
        refine ⟨m, rfl, congrArg qI ?_, hM, qFr_rf⟩
        first
          | (rw [if_pos (of_decide_eq_true (by assumption))]; done)
          | (rw [if_neg (of_decide_eq_false (by assumption))]; done)
      · refine qr_const rfl (w := ?_)
        refine qr_goto rfl (w := ?_)
        refine qW_ireturn rfl ?_
        refine ⟨m, rfl, congrArg qI ?_, hM, qFr_rf⟩
        first
          | (rw [if_pos (of_decide_eq_true (by assumption))]; done)
          | (rw [if_neg (of_decide_eq_false (by assumption))]; done)
    · rw [if_neg (by decide)]
      rw [if_neg (by decide)]
      rw [if_pos rfl]
      refine qr_al rfl rfl (w := ?_)
      refine qr_il rfl rfl (w := ?_)
      refine qr_callP rfl (mIsShape h hB hl) (qrcv1 kd_176) (w := ?_)
      refine qr_ifeqB rfl (fun hc => absurd hs (of_decide_eq_false hc)) (fun hc => ?_)
      refine qr_il rfl rfl (w := ?_)
      refine qr_const rfl (w := ?_)
      refine qr_const rfl (w := ?_)
      refine qr_callP rfl mIn rfl (w := ?_)
      refine qr_ifneB rfl (fun hcf => ?_) (fun hcf => absurd hcf (by decide))
      refine qr_il rfl rfl (w := ?_)
      refine qr_swin rfl (by decide) (t := 78) rfl (w := ?_)
      refine qr_al rfl rfl (w := ?_)
      refine qr_il rfl rfl (w := ?_)
      refine qr_callP rfl (mLeavesOf (s := s) h hB hl (by omega)) (qrcv1 kd_176) (w := ?_)
      refine qW_ireturn rfl ?_
      exact ⟨m, rfl, rfl, hM, qFr_rf⟩
    · rw [if_neg (by decide)]
      rw [if_neg (by decide)]
      rw [if_neg (by decide)]
      rw [if_pos rfl]
      refine qr_al rfl rfl (w := ?_)
      refine qr_il rfl rfl (w := ?_)
      refine qr_callP rfl (mIsShape h hB hl) (qrcv1 kd_176) (w := ?_)
      refine qr_ifeqB rfl (fun hc => absurd hs (of_decide_eq_false hc)) (fun hc => ?_)
      refine qr_il rfl rfl (w := ?_)
      refine qr_const rfl (w := ?_)
      refine qr_const rfl (w := ?_)
      refine qr_callP rfl mIn rfl (w := ?_)
      refine qr_ifneB rfl (fun hcf => ?_) (fun hcf => absurd hcf (by decide))
      refine qr_il rfl rfl (w := ?_)
      refine qr_swin rfl (by decide) (t := 84) rfl (w := ?_)
      refine qr_al rfl rfl (w := ?_)
      refine qr_il rfl rfl (w := ?_)
      refine qr_callP rfl (mBranchesOf (s := s) h hB hl (by omega)) (qrcv1 kd_176) (w := ?_)
      refine qW_ireturn rfl ?_
      exact ⟨m, rfl, rfl, hM, qFr_rf⟩
    · rw [if_neg (by decide)]
      rw [if_neg (by decide)]
      rw [if_neg (by decide)]
      rw [if_neg (by decide)]
      rw [if_pos rfl]
      refine qr_al rfl rfl (w := ?_)
      refine qr_il rfl rfl (w := ?_)
      refine qr_callP rfl (mIsShape h hB hl) (qrcv1 kd_176) (w := ?_)
      refine qr_ifeqB rfl (fun hc => absurd hs (of_decide_eq_false hc)) (fun hc => ?_)
      refine qr_il rfl rfl (w := ?_)
      refine qr_const rfl (w := ?_)
      refine qr_const rfl (w := ?_)
      refine qr_callP rfl mIn rfl (w := ?_)
      refine qr_ifneB rfl (fun hcf => ?_) (fun hcf => absurd hcf (by decide))
      refine qr_il rfl rfl (w := ?_)
      refine qr_swout rfl (by decide) (w := ?_)
      refine qr_al rfl rfl (w := ?_)
      refine qr_il rfl rfl (w := ?_)
      refine qr_const rfl (w := ?_)
      refine qr_callV rfl (mWrS h hM hw hs) (qrcv1 kd_176) (w := fun _ σ hσ => ?_)
      obtain ⟨m1, rfl, hT1, hM1, hG1⟩ := hσ
      refine qr_al rfl rfl (w := ?_)
      refine qr_gi rfl kd_176 (w := ?_)
      refine qW_ireturn rfl ?_
      exact ⟨m1, rfl, congrArg qI (hT1.1), hM1, qFr_G hG1 qPw_rn⟩
