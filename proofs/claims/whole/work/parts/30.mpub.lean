/-! The reference against the world; its public methods that write nothing -/
variable {m : Nat → Int → Int} {r : Nat → Int → Option Nat}
/-- the reference's cells hold the world w -/
def qMo (m : Nat → Int → Int) (w : qWd) : Prop := qMb (m 177) w.1 ∧ m 176 2 = w.2.1.length ∧ (∀ i : Nat, i < w.2.1.length → qMb (fun j => m 178 (1294 * i + j)) (w.2.1.getD i w.1)) ∧ m 176 5 = w.2.2.length ∧ ∀ k : Nat, k < w.2.2.length → m 180 k = w.2.2.getD k 0
theorem mCount (h : qE r) {w : qWd} (hM : qMo m w) (hw : qWW w) {x : Int} : qP m_Mo_count [qK 176, qI x] (qT0, m, r) (qI (fCount w x)) := by
  have hB := hM.1
  have hl := qMl_of hw.1
  have hR := qRk_of hw.1
  have hV := qRv_of hw.1
  have hrl := qRs_len w.1
  obtain ⟨⟨b0, b1, b2, b3⟩, bp, bs, br⟩ := id hB
  obtain ⟨l1, l2, l3, l4, l5⟩ := id hl
  obtain ⟨-, mh, mp, mt, mx⟩ := id hM
  have w5 := hw.2.2.1
  have w80 := hw.2.2.2.1
  have wb := hw.1.2.2.2.1
  unfold fCount
  by_cases c0 : x = 0
  · subst c0
    rw [if_pos rfl]
    refine qr_il rfl rfl (w := ?_)
    refine qr_swin rfl (by decide) (t := 56) rfl (w := ?_)
    refine qr_al rfl rfl (w := ?_)
    refine qr_callP rfl (mRecordMany h hB hl) (qrcv1 kd_176) (w := ?_)
    refine qW_ireturn rfl ?_
    exact ⟨rfl, rfl⟩
  by_cases c1 : x = 1
  · subst c1
    rw [if_neg (by decide)]
    rw [if_pos rfl]
    refine qr_il rfl rfl (w := ?_)
    refine qr_swin rfl (by decide) (t := 61) rfl (w := ?_)
    refine qr_al rfl rfl (w := ?_)
    refine qr_gr rfl kd_176 (hr := (rf_8_0 h)) (w := ?_)
    refine qr_const rfl (w := ?_)
    refine qr_ia rfl kd_177 (by omega) (w := ?_)
    refine qW_ireturn rfl ?_
    exact ⟨congrArg qI b0, rfl⟩
  by_cases c2 : x = 2
  · subst c2
    rw [if_neg (by decide)]
    rw [if_neg (by decide)]
    rw [if_pos rfl]
    refine qr_il rfl rfl (w := ?_)
    refine qr_swin rfl (by decide) (t := 68) rfl (w := ?_)
    refine qr_al rfl rfl (w := ?_)
    refine qr_gr rfl kd_176 (hr := (rf_8_0 h)) (w := ?_)
    refine qr_const rfl (w := ?_)
    refine qr_ia rfl kd_177 (by omega) (w := ?_)
    refine qW_ireturn rfl ?_
    exact ⟨congrArg qI b1, rfl⟩
  by_cases c3 : x = 3
  · subst c3
    rw [if_neg (by decide)]
    rw [if_neg (by decide)]
    rw [if_neg (by decide)]
    rw [if_pos rfl]
    refine qr_il rfl rfl (w := ?_)
    refine qr_swin rfl (by decide) (t := 75) rfl (w := ?_)
    refine qr_al rfl rfl (w := ?_)
    refine qr_gr rfl kd_176 (hr := (rf_8_0 h)) (w := ?_)
    refine qr_const rfl (w := ?_)
    refine qr_ia rfl kd_177 (by omega) (w := ?_)
    refine qW_ireturn rfl ?_
    exact ⟨congrArg qI b2, rfl⟩
  by_cases c4 : x = 4
  · subst c4
    rw [if_neg (by decide)]
    rw [if_neg (by decide)]
    rw [if_neg (by decide)]
    rw [if_neg (by decide)]
    rw [if_pos rfl]
    refine qr_il rfl rfl (w := ?_)
    refine qr_swin rfl (by decide) (t := 82) rfl (w := ?_)
    refine qr_al rfl rfl (w := ?_)
    refine qr_al rfl rfl (w := ?_)
    refine qr_gr rfl kd_176 (hr := (rf_8_0 h)) (w := ?_)
    refine qr_const rfl (w := ?_)
    refine qr_ia rfl kd_177 (by omega) (w := ?_)
    refine qr_callP rfl (mCommonMany h hB hl) (qrcv1 kd_176) (w := ?_)
    refine qW_ireturn rfl ?_
    exact ⟨by rw [b3], rfl⟩
  by_cases c5 : x = 5
  · subst c5
    rw [if_neg (by decide)]
    rw [if_neg (by decide)]
    rw [if_neg (by decide)]
    rw [if_neg (by decide)]
    rw [if_neg (by decide)]
    rw [if_pos rfl]
    refine qr_il rfl rfl (w := ?_)
    refine qr_swin rfl (by decide) (t := 93) rfl (w := ?_)
    refine qr_al rfl rfl (w := ?_)
    refine qr_callP rfl (mRareMany h hB hl hR) (qrcv1 kd_176) (w := ?_)
    refine qW_ireturn rfl ?_
    exact ⟨rfl, rfl⟩
  by_cases c6 : x = 6
  · subst c6
    rw [if_neg (by decide)]
    rw [if_neg (by decide)]
    rw [if_neg (by decide)]
    rw [if_neg (by decide)]
    rw [if_neg (by decide)]
    rw [if_neg (by decide)]
    rw [if_pos rfl]
    refine qr_il rfl rfl (w := ?_)
    refine qr_swin rfl (by decide) (t := 98) rfl (w := ?_)
    refine qr_al rfl rfl (w := ?_)
    refine qr_al rfl rfl (w := ?_)
    refine qr_gr rfl kd_176 (hr := (rf_8_0 h)) (w := ?_)
    refine qr_const rfl (w := ?_)
    refine qr_ia rfl kd_177 (by omega) (w := ?_)
    refine qr_callP rfl (mSizeBy h hB hl hR) (qrcv1 kd_176) (w := ?_)
    refine qW_ireturn rfl ?_
    exact ⟨by rw [b3], rfl⟩
  by_cases c7 : x = 7
  · subst c7
    rw [if_neg (by decide)]
    rw [if_neg (by decide)]
    rw [if_neg (by decide)]
    rw [if_neg (by decide)]
    rw [if_neg (by decide)]
    rw [if_neg (by decide)]
    rw [if_neg (by decide)]
    rw [if_pos rfl]
    refine qr_il rfl rfl (w := ?_)
    refine qr_swin rfl (by decide) (t := 109) rfl (w := ?_)
    refine qr_al rfl rfl (w := ?_)
    refine qr_gr rfl kd_176 (hr := (rf_8_0 h)) (w := ?_)
    refine qr_const rfl (w := ?_)
    refine qr_ia rfl kd_177 (by omega) (w := ?_)
    refine qW_ireturn rfl ?_
    exact ⟨congrArg qI b3, rfl⟩
  by_cases c8 : x = 8
  · subst c8
    rw [if_neg (by decide)]
    rw [if_neg (by decide)]
    rw [if_neg (by decide)]
    rw [if_neg (by decide)]
    rw [if_neg (by decide)]
    rw [if_neg (by decide)]
    rw [if_neg (by decide)]
    rw [if_neg (by decide)]
    rw [if_pos rfl]
    refine qr_il rfl rfl (w := ?_)
    refine qr_swin rfl (by decide) (t := 116) rfl (w := ?_)
    refine qr_al rfl rfl (w := ?_)
    refine qr_gi rfl kd_176 (w := ?_)
    refine qW_ireturn rfl ?_
    exact ⟨congrArg qI mh, rfl⟩
  by_cases c9 : x = 9
  · subst c9
    rw [if_neg (by decide)]
    rw [if_neg (by decide)]
    rw [if_neg (by decide)]
    rw [if_neg (by decide)]
    rw [if_neg (by decide)]
    rw [if_neg (by decide)]
    rw [if_neg (by decide)]
    rw [if_neg (by decide)]
    rw [if_neg (by decide)]
    rw [if_pos rfl]
    refine qr_il rfl rfl (w := ?_)
    refine qr_swin rfl (by decide) (t := 121) rfl (w := ?_)
    refine qr_al rfl rfl (w := ?_)
    refine qr_gi rfl kd_176 (w := ?_)
    refine qW_ireturn rfl ?_
    exact ⟨congrArg qI mt, rfl⟩
  rw [if_neg c0]
  rw [if_neg c1]
  rw [if_neg c2]
  rw [if_neg c3]
  rw [if_neg c4]
  rw [if_neg c5]
  rw [if_neg c6]
  rw [if_neg c7]
  rw [if_neg c8]
  rw [if_neg c9]
  refine qr_il rfl rfl (w := ?_)
  refine qr_swout rfl (by simp only [List.length_cons, List.length_nil]; omega) (w := ?_)
  refine qr_const rfl (w := ?_)
  refine qW_ireturn rfl ?_
  exact ⟨rfl, rfl⟩
theorem mValue (h : qE r) {w : qWd} (hM : qMo m w) (hw : qWW w) {i p : Int} : qP m_Mo_value [qK 176, qI i, qI p, none] (qT0, m, r) (qI (fValue w i p)) := by
  have hB := hM.1
  have hl := qMl_of hw.1
  have hR := qRk_of hw.1
  have hV := qRv_of hw.1
  have hrl := qRs_len w.1
  obtain ⟨⟨b0, b1, b2, b3⟩, bp, bs, br⟩ := id hB
  obtain ⟨l1, l2, l3, l4, l5⟩ := id hl
  obtain ⟨-, mh, mp, mt, mx⟩ := id hM
  have w5 := hw.2.2.1
  have w80 := hw.2.2.2.1
  have wb := hw.1.2.2.2.1
  unfold fValue
  refine qr_al rfl rfl (w := ?_)
  refine qr_il rfl rfl (w := ?_)
  refine qr_callP rfl (mIsRecord h hB hl) (qrcv1 kd_176) (w := ?_)
  refine qr_ifeqB rfl (fun hc => ?_) (fun hc => ?_)
  · refine qr_const rfl (w := ?_)
    refine qW_ireturn rfl ⟨congrArg qI ?_, rfl⟩
    rw [if_pos]
    simp only [decide_eq_true_eq, decide_eq_false_iff_not, ne_eq, Decidable.not_not] at *
    omega
  · refine qr_al rfl rfl (w := ?_)
    refine qr_il rfl rfl (w := ?_)
    refine qr_callP rfl (mIsPath h hB hl) (qrcv1 kd_176) (w := ?_)
    refine qr_ifneB rfl (fun hcf => ?_) (fun hcf => ?_)
    · refine qr_al rfl rfl (w := ?_)
      refine qr_al rfl rfl (w := ?_)
      refine qr_il rfl rfl (w := ?_)
      have h9 := of_decide_eq_true hc
      have hp := of_decide_eq_true hcf
      have hi := qHas_lt h9
      have hRi := hR i
      have hVi := (hV i h9).1
      have hfe : qGf w.1.2.1 (qAt (qRs w.1) i) = qFr' w.1 i := rfl
      have hpl := qLp_lt (qFr' w.1 i) (p := p) (by omega) 0
      refine qr_callP rfl (mShapeOf (i := i) h hB hl hi) (qrcv1 kd_176) (w := ?_)
      refine qr_il rfl rfl (w := ?_)
      refine qr_callP rfl (mLeafAt (s := qAt (qRs w.1) i) h hB hl (by omega)) (qrcv1 kd_176) (w := ?_)
      rw [hfe]
      refine qr_is3 rfl (w := ?_)
      refine qr_il rfl rfl (w := ?_)
      refine qr_const rfl (w := ?_)
      refine qr_icne rfl (fun hcft => ?_) (fun hcft => ?_)
      · refine qr_al rfl rfl (w := ?_)
        refine qr_il rfl rfl (w := ?_)
        refine qr_il rfl rfl (w := ?_)
        refine qr_callP rfl (mValueOf (i := i) (j := qLp (qFr' w.1 i) p 0) h hB hl hi (by omega)) (qrcv1 kd_176) (w := ?_)
        refine qW_ireturn rfl ?_
        refine ⟨congrArg qI ?_, rfl⟩
        rw [if_neg (by omega)]
        first
          | (rw [if_pos (by assumption)]; done)
          | (rw [if_neg (by assumption)]; done)
      · refine qr_const rfl (w := ?_)
        refine qr_goto rfl (w := ?_)
        refine qW_ireturn rfl ?_
        refine ⟨congrArg qI ?_, rfl⟩
        rw [if_neg (by omega)]
        first
          | (rw [if_pos (by assumption)]; done)
          | (rw [if_neg (by assumption)]; done)
    · refine qr_const rfl (w := ?_)
      refine qW_ireturn rfl ⟨congrArg qI ?_, rfl⟩
      rw [if_pos]
      simp only [decide_eq_true_eq, decide_eq_false_iff_not, ne_eq, Decidable.not_not] at *
      omega
theorem mField (h : qE r) {w : qWd} (hM : qMo m w) (hw : qWW w) {s k : Int} : qP m_Mo_field [qK 176, qI s, qI k] (qT0, m, r) (qI (fField w s k)) := by
  have hB := hM.1
  have hl := qMl_of hw.1
  have hR := qRk_of hw.1
  have hV := qRv_of hw.1
  have hrl := qRs_len w.1
  obtain ⟨⟨b0, b1, b2, b3⟩, bp, bs, br⟩ := id hB
  obtain ⟨l1, l2, l3, l4, l5⟩ := id hl
  obtain ⟨-, mh, mp, mt, mx⟩ := id hM
  have w5 := hw.2.2.1
  have w80 := hw.2.2.2.1
  have wb := hw.1.2.2.2.1
  unfold fField
  refine qr_al rfl rfl (w := ?_)
  refine qr_il rfl rfl (w := ?_)
  refine qr_callP rfl (mIsShape h hB hl) (qrcv1 kd_176) (w := ?_)
  refine qr_ifeqB rfl (fun hc => ?_) (fun hc => ?_)
  · refine qr_const rfl (w := ?_)
    refine qW_ireturn rfl ⟨congrArg qI ?_, rfl⟩
    rw [if_pos]
    simp only [decide_eq_true_eq, decide_eq_false_iff_not, ne_eq, Decidable.not_not] at *
    omega
  · refine qr_il rfl rfl (w := ?_)
    refine qr_ifge rfl (fun hcf => ?_) (fun hcf => ?_)
    · refine qr_il rfl rfl (w := ?_)
      refine qr_al rfl rfl (w := ?_)
      refine qr_il rfl rfl (w := ?_)
      have hs := of_decide_eq_true hc
      refine qr_callP rfl (mFieldsOf (s := s) h hB hl hs) (qrcv1 kd_176) (w := ?_)
      refine qr_icge rfl (fun hcft => ?_) (fun hcft => ?_)
      · refine qr_const rfl (w := ?_)
        refine qW_ireturn rfl ?_
        refine ⟨congrArg qI ?_, rfl⟩
        rw [if_neg (by omega)]
        all_goals (unfold qAt; rw [if_neg (by omega)])
      · refine qr_al rfl rfl (w := ?_)
        refine qr_il rfl rfl (w := ?_)
        refine qr_il rfl rfl (w := ?_)
        refine qr_callP rfl (mFieldOf (s := s) (k := k) h hB hl hs (by omega)) (qrcv1 kd_176) (w := ?_)
        refine qr_goto rfl (w := ?_)
        refine qW_ireturn rfl ?_
        refine ⟨congrArg qI ?_, rfl⟩
        rw [if_neg (by omega)]
        all_goals (unfold qAt; rw [if_neg (by omega)])
    · refine qr_const rfl (w := ?_)
      refine qW_ireturn rfl ⟨congrArg qI ?_, rfl⟩
      rw [if_pos]
      simp only [decide_eq_true_eq, decide_eq_false_iff_not, ne_eq, Decidable.not_not] at *
      omega
theorem mSizeWith (h : qE r) {w : qWd} (hM : qMo m w) (hw : qWW w) {b : Int} : qP m_Mo_sizeWith [qK 176, qI b] (qT0, m, r) (qI (fSizeWith w b)) := by
  have hB := hM.1
  have hl := qMl_of hw.1
  have hR := qRk_of hw.1
  have hV := qRv_of hw.1
  have hrl := qRs_len w.1
  obtain ⟨⟨b0, b1, b2, b3⟩, bp, bs, br⟩ := id hB
  obtain ⟨l1, l2, l3, l4, l5⟩ := id hl
  obtain ⟨-, mh, mp, mt, mx⟩ := id hM
  have w5 := hw.2.2.1
  have w80 := hw.2.2.2.1
  have wb := hw.1.2.2.2.1
  unfold fSizeWith
  refine qr_il rfl rfl (w := ?_)
  refine qr_const rfl (w := ?_)
  refine qr_const rfl (w := ?_)
  refine qr_callP rfl mIn rfl (w := ?_)
  refine qr_ifeqB rfl (fun hc => ?_) (fun hc => ?_)
  · refine qr_const rfl (w := ?_)
    refine qW_ireturn rfl ?_
    refine ⟨congrArg qI ?_, rfl⟩
    first
      | (rw [if_pos (of_decide_eq_true hc)]; done)
      | (rw [if_neg (of_decide_eq_false hc)]; done)
  · refine qr_al rfl rfl (w := ?_)
    refine qr_il rfl rfl (w := ?_)
    refine qr_callP rfl (mSizeBy h hB hl hR) (qrcv1 kd_176) (w := ?_)
    refine qr_goto rfl (w := ?_)
    refine qW_ireturn rfl ?_
    refine ⟨congrArg qI ?_, rfl⟩
    first
      | (rw [if_pos (of_decide_eq_true hc)]; done)
      | (rw [if_neg (of_decide_eq_false hc)]; done)
theorem mColumn (h : qE r) {w : qWd} (hM : qMo m w) (hw : qWW w) {s lf k : Int} (hk : qin k) : qP m_Mo_column [qK 176, qI s, qI lf, qI k, none, none] (qT0, m, r) (qI (fColumn w s lf k)) := by
  have hB := hM.1
  have hl := qMl_of hw.1
  have hR := qRk_of hw.1
  have hV := qRv_of hw.1
  have hrl := qRs_len w.1
  obtain ⟨⟨b0, b1, b2, b3⟩, bp, bs, br⟩ := id hB
  obtain ⟨l1, l2, l3, l4, l5⟩ := id hl
  obtain ⟨-, mh, mp, mt, mx⟩ := id hM
  have w5 := hw.2.2.1
  have w80 := hw.2.2.2.1
  have wb := hw.1.2.2.2.1
  unfold fColumn
  refine qr_al rfl rfl (w := ?_)
  refine qr_il rfl rfl (w := ?_)
  refine qr_callP rfl (mIsShape h hB hl) (qrcv1 kd_176) (w := ?_)
  refine qr_ifeqB rfl (fun hc => ?_) (fun hc => ?_)
  · refine qr_const rfl (w := ?_)
    refine qW_ireturn rfl ⟨congrArg qI ?_, rfl⟩
    rw [if_pos]
    simp only [decide_eq_true_eq, decide_eq_false_iff_not, ne_eq, Decidable.not_not] at *
    omega
  · refine qr_il rfl rfl (w := ?_)
    refine qr_iflt rfl (fun hcf => ?_) (fun hcf => ?_)
    · refine qr_const rfl (w := ?_)
      refine qW_ireturn rfl ⟨congrArg qI ?_, rfl⟩
      rw [if_pos]
      simp only [decide_eq_true_eq, decide_eq_false_iff_not, ne_eq, Decidable.not_not] at *
      omega
    · refine qr_il rfl rfl (w := ?_)
      refine qr_ifge rfl (fun hcff => ?_) (fun hcff => ?_)
      · refine qr_al rfl rfl (w := ?_)
        refine qr_il rfl rfl (w := ?_)
        refine qr_al rfl rfl (w := ?_)
        refine qr_gr rfl kd_176 (hr := (rf_8_0 h)) (w := ?_)
        refine qr_const rfl (w := ?_)
        refine qr_ia rfl kd_177 (by omega) (w := ?_)
        refine qr_callP rfl (mIsCommon h hB hl) (qrcv1 kd_176) (w := ?_)
        refine qr_ifneB rfl (fun hcfft => ?_) (fun hcfft => ?_)
        · refine qr_il rfl rfl (w := ?_)
          refine qr_is4 rfl (w := ?_)
          refine qr_const rfl (w := ?_)
          refine qr_is5 rfl (w := ?_)
          have hs := of_decide_eq_true hc
          simp only [decide_eq_true_eq, decide_eq_false_iff_not, ne_eq, Decidable.not_not] at *
          rw [if_neg (by omega), if_neg (by omega)]
          exact mColumn_loop h hB hl hR hV hs (by omega) w.1.2.2.2.length 0 k (by omega) (by omega) hk
        · refine qr_const rfl (w := ?_)
          refine qW_ireturn rfl ⟨congrArg qI ?_, rfl⟩
          have hs := of_decide_eq_true hc
          simp only [decide_eq_true_eq, decide_eq_false_iff_not, ne_eq, Decidable.not_not] at *
          rw [if_neg (by omega), if_pos (by omega)]
      · refine qr_const rfl (w := ?_)
        refine qW_ireturn rfl ⟨congrArg qI ?_, rfl⟩
        rw [if_pos]
        simp only [decide_eq_true_eq, decide_eq_false_iff_not, ne_eq, Decidable.not_not] at *
        omega
theorem fPath_bad {w : qWd} {p x : Int} (h : ¬ (0 ≤ p ∧ p < w.1.1.length) ∨ x < 0 ∨ 5 < x) : fPath w p x = -1 := by
  unfold fPath
  by_cases hp : 0 ≤ p ∧ p < w.1.1.length
  · rw [if_neg (fun e => e hp), if_neg (by omega), if_neg (by omega), if_neg (by omega), if_neg (by omega), if_neg (by omega), if_neg (by omega)]
  · rw [if_pos hp]
theorem fPath_0 {w : qWd} {p : Int} (hp : 0 ≤ p ∧ p < w.1.1.length) : fPath w p 0 = qLe w.1.1 p := by
  unfold fPath
  rw [if_neg (fun e => e hp), if_pos rfl]
theorem fPath_1 {w : qWd} {p : Int} (hp : 0 ≤ p ∧ p < w.1.1.length) : fPath w p 1 = qOu w.1.1 p := by
  unfold fPath
  rw [if_neg (fun e => e hp), if_neg (by decide), if_pos rfl]
theorem qOver_rm {a : qAS} (hR : qRk a) {p x : Int} (g : Int → Int) (e : ∀ i : Nat, qAt (qRs a) i ≠ -9 → qOver a p x i = g (qAt (qRs a) i)) : qSm a.2.2.2.length 0 (qOver a p x) = qSm a.2.1.length 0 (fun i => qCt (qRs a) i * g i) := by
  rw [← qRm_ex g a.2.1.length (qRs a) (qRk_mem hR), ← qRm_sm g (qRs a), qRs_len]
  refine qSm_congr _ _ (fun j _ _ => ?_)
  by_cases h9 : qAt (qRs a) j = -9
  · rw [if_pos h9]
    unfold qOver
    rw [if_pos h9]
  · rw [if_neg h9]
    exact e j h9
theorem fPath_o {w : qWd} (hR : qRk w.1) {p x : Int} (hp : 0 ≤ p ∧ p < w.1.1.length) (hx : 2 ≤ x ∧ x ≤ 5) : qSm w.1.2.2.2.length 0 (qOver w.1 p x) = fPath w p x := by
  unfold fPath
  rw [if_neg (fun e => e hp), if_neg (by omega), if_neg (by omega)]
  by_cases c2 : x = 2
  · subst c2
    rw [if_pos rfl, qOver_rm hR (fun y => if qLp (qGf w.1.2.1 y) p 0 = -9 then 0 else 1) (fun i h9 => by
      unfold qOver
      rw [if_neg h9, if_neg (by decide), if_neg (by decide)]
      by_cases hl : qLp (qFr' w.1 i) p 0 = -9
      · rw [if_pos hl]; exact (if_pos hl).symm
      · rw [if_neg hl, if_pos rfl]; exact (if_neg hl).symm)]
    refine qSm_congr _ _ (fun j _ _ => ?_)
    have hn := qLp_none (qGf w.1.2.1 (j : Int)) p 0 (Int.le_refl _)
    by_cases hm : p ∈ qGf w.1.2.1 (j : Int)
    · rw [if_neg (fun e => hn.mp e hm), if_pos (List.contains_iff_mem.mpr hm), Int.mul_one]
    · rw [if_pos (hn.mpr hm), if_neg (fun e => hm (List.contains_iff_mem.mp e)), Int.mul_zero]
  rw [if_neg c2]
  by_cases c3 : x = 3
  · subst c3
    rw [if_pos rfl, qOver_rm hR (fun y => if (100 + p) ∈ qGf w.1.2.1 y then 1 else 0) (fun i h9 => by
      unfold qOver
      rw [if_neg h9, if_neg (by decide), if_pos rfl]
      rfl)]
    refine qSm_congr _ _ (fun j _ _ => ?_)
    by_cases hm : (100 + p) ∈ qGf w.1.2.1 (j : Int)
    · rw [if_pos hm, if_pos (List.contains_iff_mem.mpr hm), Int.mul_one]
    · rw [if_neg hm, if_neg (fun e => hm (List.contains_iff_mem.mp e)), Int.mul_zero]
  rw [if_neg c3]
  by_cases c4 : x = 4
  · subst c4
    rw [if_pos rfl]
    unfold qSopA
    refine qSm_congr _ _ (fun j _ _ => ?_)
    unfold qOver
    by_cases h9 : qAt (qRs w.1) j = -9
    · rw [if_pos h9, if_pos]
      unfold qFr'
      rw [h9, qGf_out (by omega)]
      rfl
    · rw [if_neg h9, if_neg (by decide), if_neg (by decide)]
      by_cases hl : qLp (qFr' w.1 j) p 0 = -9
      · rw [if_pos hl, if_pos hl]
      · rw [if_neg hl, if_neg (by decide), if_neg hl]
  rw [if_neg c4]
  have c5 : x = 5 := by omega
  subst c5
  rw [if_pos rfl, qOver_rm hR (fun y => if w.1.2.2.1 ≤ qCt (qRs w.1) y then (if qLp (qGf w.1.2.1 y) p 0 = -9 then 0 else 1) else ((qGf w.1.2.1 y).length : Int)) (fun i h9 => by
      unfold qOver
      rw [if_neg h9, if_pos rfl]
      rfl)]
  refine qSm_congr _ _ (fun j _ _ => ?_)
  have hn := qLp_none (qGf w.1.2.1 (j : Int)) p 0 (Int.le_refl _)
  by_cases hb : w.1.2.2.1 ≤ qCt (qRs w.1) j
  · rw [if_pos hb, if_pos hb]
    by_cases hm : p ∈ qGf w.1.2.1 (j : Int)
    · rw [if_neg (fun e => hn.mp e hm), if_pos (List.contains_iff_mem.mpr hm), Int.mul_one]
    · rw [if_pos (hn.mpr hm), if_neg (fun e => hm (List.contains_iff_mem.mp e)), Int.mul_zero]
  · rw [if_neg hb, if_neg hb]
theorem mPath (h : qE r) {w : qWd} (hM : qMo m w) (hw : qWW w) {p x : Int} : qP m_Mo_path [qK 176, qI p, qI x] (qT0, m, r) (qI (fPath w p x)) := by
  have hB := hM.1
  have hl := qMl_of hw.1
  have hR := qRk_of hw.1
  have hV := qRv_of hw.1
  have hrl := qRs_len w.1
  obtain ⟨⟨b0, b1, b2, b3⟩, bp, bs, br⟩ := id hB
  obtain ⟨l1, l2, l3, l4, l5⟩ := id hl
  obtain ⟨-, mh, mp, mt, mx⟩ := id hM
  have w5 := hw.2.2.1
  have w80 := hw.2.2.2.1
  have wb := hw.1.2.2.2.1
  refine qr_al rfl rfl (w := ?_)
  refine qr_il rfl rfl (w := ?_)
  refine qr_callP rfl (mIsPath h hB hl) (qrcv1 kd_176) (w := ?_)
  refine qr_ifeqB rfl (fun hc => ?_) (fun hc => ?_)
  · refine qr_const rfl (w := ?_)
    refine qW_ireturn rfl ⟨congrArg qI (Eq.symm (fPath_bad ?_)), rfl⟩
    simp only [decide_eq_true_eq, decide_eq_false_iff_not] at *
    omega
  · refine qr_il rfl rfl (w := ?_)
    refine qr_const rfl (w := ?_)
    refine qr_const rfl (w := ?_)
    refine qr_callP rfl mIn rfl (w := ?_)
    refine qr_ifneB rfl (fun hcf => ?_) (fun hcf => ?_)
    · have hp := of_decide_eq_true hc
      have hx := of_decide_eq_true hcf
      refine qr_il rfl rfl (w := ?_)
      refine qr_ifne rfl (fun hcft => ?_) (fun hcft => ?_)
      · refine qr_il rfl rfl (w := ?_)
        refine qr_const rfl (w := ?_)
        refine qr_icne rfl (fun hcftt => ?_) (fun hcftt => ?_)
        · refine qr_al rfl rfl (w := ?_)
          refine qr_il rfl rfl (w := ?_)
          refine qr_il rfl rfl (w := ?_)
          refine qr_callP rfl (mOver (p := p) (x := x) h hB hl hR hV (by omega)) (qrcv1 kd_176) (w := ?_)
          refine qW_ireturn rfl ?_
          refine ⟨congrArg qI ?_, rfl⟩
          first
            | exact fPath_o hR hp (by omega)
            | (have e : x = 0 := by omega
               subst e
               exact (fPath_0 hp).symm)
            | (have e : x = 1 := by omega
               subst e
               exact (fPath_1 hp).symm)
        · refine qr_al rfl rfl (w := ?_)
          refine qr_il rfl rfl (w := ?_)
          refine qr_callP rfl (mInnerOf (p := p) h hB hl (by omega)) (qrcv1 kd_176) (w := ?_)
          refine qr_goto rfl (w := ?_)
          refine qW_ireturn rfl ?_
          refine ⟨congrArg qI ?_, rfl⟩
          first
            | exact fPath_o hR hp (by omega)
            | (have e : x = 0 := by omega
               subst e
               exact (fPath_0 hp).symm)
            | (have e : x = 1 := by omega
               subst e
               exact (fPath_1 hp).symm)
      · refine qr_al rfl rfl (w := ?_)
        refine qr_il rfl rfl (w := ?_)
        refine qr_callP rfl (mLetterOf (p := p) h hB hl (by omega)) (qrcv1 kd_176) (w := ?_)
        refine qr_goto rfl (w := ?_)
        refine qW_ireturn rfl ?_
        refine ⟨congrArg qI ?_, rfl⟩
        first
          | exact fPath_o hR hp (by omega)
          | (have e : x = 0 := by omega
             subst e
             exact (fPath_0 hp).symm)
          | (have e : x = 1 := by omega
             subst e
             exact (fPath_1 hp).symm)
    · refine qr_const rfl (w := ?_)
      refine qW_ireturn rfl ⟨congrArg qI (Eq.symm (fPath_bad ?_)), rfl⟩
      simp only [decide_eq_true_eq, decide_eq_false_iff_not] at *
      omega
