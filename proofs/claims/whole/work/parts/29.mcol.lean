/-! The reference: likeness, columns; its public methods that change nothing -/
variable {m : Nat → Int → Int} {r : Nat → Int → Option Nat}
theorem mInCommon_loop (h : qE r) {a : qAS} (hB : qMb (m 177) a) (hl : qMl a) {i j : Int} (hi : 0 ≤ i ∧ i < a.2.2.2.length) (hj : 0 ≤ j ∧ j < a.2.2.2.length) (hsi : 0 ≤ qAt (qRs a) i ∧ qAt (qRs a) i < a.2.1.length) (hsj : 0 ≤ qAt (qRs a) j ∧ qAt (qRs a) j < a.2.1.length) : ∀ (k y : Nat) (c : Int), y + k = (qFr' a i).length → 0 ≤ c → c ≤ y → qP2 m_Mo_inCommon 12 [qK 176, qI i, qI j, qI c, qI (qAt (qRs a) i), qI y] (qT0, m, r) (qI (c + qIc ((qFr' a i).drop y) (qFr' a j))) := by
  obtain ⟨⟨b0, b1, b2, b3⟩, bp, bs, br⟩ := id hB
  obtain ⟨l1, l2, l3, l4, l5⟩ := id hl
  have hrl := qRs_len a
  have h3 := l3 (qAt (qRs a) i)
  have hfe : qGf a.2.1 (qAt (qRs a) i) = qFr' a i := rfl
  have hfj : qGf a.2.1 (qAt (qRs a) j) = qFr' a j := rfl
  rw [hfe] at h3
  intro k
  induction k with
  | zero =>
    intro y c hik hc0 hc1
    rw [qdrop_nil (by omega)]
    unfold qP2
    refine qr_il rfl rfl (w := ?_)
    refine qr_al rfl rfl (w := ?_)
    refine qr_il rfl rfl (w := ?_)
    refine qr_callP rfl (mFieldsOf (s := qAt (qRs a) i) h hB hl hsi) (qrcv1 kd_176) (w := ?_)
    rw [hfe]
    refine qr_icge rfl (fun hc => ?_) (fun hc => ?_)
    · refine qr_il rfl rfl (w := ?_)
      refine qW_ireturn rfl ?_
      exact ⟨by simp [qIc], rfl⟩
    · exact absurd hc (by omega)
  | succ k ih =>
    intro y c hik hc0 hc1
    rw [qdrop (by omega)]
    have e := qAt_lt (l := qFr' a i) (i := y) (by omega)
    rw [← e]
    unfold qP2
    simp only [qIc]
    have hno := qLp_none (qFr' a j) (qAt (qFr' a i) y) 0 (by omega)
    refine qr_il rfl rfl (w := ?_)
    refine qr_al rfl rfl (w := ?_)
    refine qr_il rfl rfl (w := ?_)
    refine qr_callP rfl (mFieldsOf (s := qAt (qRs a) i) h hB hl hsi) (qrcv1 kd_176) (w := ?_)
    rw [hfe]
    refine qr_icge rfl (fun hc => ?_) (fun hc => ?_)
    · exact absurd hc (by omega)
    · refine qr_il rfl rfl (w := ?_)
      refine qr_al rfl rfl (w := ?_)
      refine qr_il rfl rfl (w := ?_)
      refine qr_il rfl rfl (w := ?_)
      refine qr_callP rfl (mFieldOf (s := qAt (qRs a) i) (k := y) h hB hl hsi (by rw [hfe]; omega)) (qrcv1 kd_176) (w := ?_)
      rw [hfe]
      refine qr_const rfl (w := ?_)
      refine qr_icge rfl (fun hcf => ?_) (fun hcf => ?_)
      · refine qr_const rfl (w := ?_)
        refine qr_add rfl (by omega) (w := ?_)
        refine qr_is3 rfl (w := ?_)
        refine qr_inc5 rfl (by omega) (w := ?_)
        refine qr_goto rfl (w := ?_)
        refine qW2 (ih (y + 1) _ (by omega) (by omega) (by omega)) (congrArg qI ?_)
        have hd : (qAt (qFr' a i) y < 100 ∧ qAt (qFr' a i) y ∈ qFr' a j) ∨ ¬ (qAt (qFr' a i) y < 100 ∧ qAt (qFr' a i) y ∈ qFr' a j) := Classical.em _
        rcases hd with hd | hd
        · rw [if_pos hd]
          have hn2 : ¬ (qLp (qFr' a j) (qAt (qFr' a i) y) 0 = -9) := fun e => (hno.mp e) hd.2
          omega
        · rw [if_neg hd]
          have hn2 : qAt (qFr' a i) y < 100 → qLp (qFr' a j) (qAt (qFr' a i) y) 0 = -9 := fun e => hno.mpr (fun e2 => hd ⟨e, e2⟩)
          omega
      · refine qr_al rfl rfl (w := ?_)
        refine qr_al rfl rfl (w := ?_)
        refine qr_il rfl rfl (w := ?_)
        refine qr_callP rfl (mShapeOf (i := j) h hB hl hj) (qrcv1 kd_176) (w := ?_)
        refine qr_al rfl rfl (w := ?_)
        refine qr_il rfl rfl (w := ?_)
        refine qr_il rfl rfl (w := ?_)
        refine qr_callP rfl (mFieldOf (s := qAt (qRs a) i) (k := y) h hB hl hsi (by rw [hfe]; omega)) (qrcv1 kd_176) (w := ?_)
        rw [hfe]
        refine qr_callP rfl (mLeafAt (s := qAt (qRs a) j) h hB hl hsj) (qrcv1 kd_176) (w := ?_)
        rw [hfj]
        refine qr_const rfl (w := ?_)
        refine qr_iceq rfl (fun hcff => ?_) (fun hcff => ?_)
        · refine qr_const rfl (w := ?_)
          refine qr_add rfl (by omega) (w := ?_)
          refine qr_is3 rfl (w := ?_)
          refine qr_inc5 rfl (by omega) (w := ?_)
          refine qr_goto rfl (w := ?_)
          refine qW2 (ih (y + 1) _ (by omega) (by omega) (by omega)) (congrArg qI ?_)
          have hd : (qAt (qFr' a i) y < 100 ∧ qAt (qFr' a i) y ∈ qFr' a j) ∨ ¬ (qAt (qFr' a i) y < 100 ∧ qAt (qFr' a i) y ∈ qFr' a j) := Classical.em _
          rcases hd with hd | hd
          · rw [if_pos hd]
            have hn2 : ¬ (qLp (qFr' a j) (qAt (qFr' a i) y) 0 = -9) := fun e => (hno.mp e) hd.2
            omega
          · rw [if_neg hd]
            have hn2 : qAt (qFr' a i) y < 100 → qLp (qFr' a j) (qAt (qFr' a i) y) 0 = -9 := fun e => hno.mpr (fun e2 => hd ⟨e, e2⟩)
            omega
        · refine qr_const rfl (w := ?_)
          refine qr_goto rfl (w := ?_)
          refine qr_add rfl (by omega) (w := ?_)
          refine qr_is3 rfl (w := ?_)
          refine qr_inc5 rfl (by omega) (w := ?_)
          refine qr_goto rfl (w := ?_)
          refine qW2 (ih (y + 1) _ (by omega) (by omega) (by omega)) (congrArg qI ?_)
          have hd : (qAt (qFr' a i) y < 100 ∧ qAt (qFr' a i) y ∈ qFr' a j) ∨ ¬ (qAt (qFr' a i) y < 100 ∧ qAt (qFr' a i) y ∈ qFr' a j) := Classical.em _
          rcases hd with hd | hd
          · rw [if_pos hd]
            have hn2 : ¬ (qLp (qFr' a j) (qAt (qFr' a i) y) 0 = -9) := fun e => (hno.mp e) hd.2
            omega
          · rw [if_neg hd]
            have hn2 : qAt (qFr' a i) y < 100 → qLp (qFr' a j) (qAt (qFr' a i) y) 0 = -9 := fun e => hno.mpr (fun e2 => hd ⟨e, e2⟩)
            omega
theorem mInCommon (h : qE r) {a : qAS} (hB : qMb (m 177) a) (hl : qMl a) {i j : Int} (hi : 0 ≤ i ∧ i < a.2.2.2.length) (hj : 0 ≤ j ∧ j < a.2.2.2.length) (hsi : 0 ≤ qAt (qRs a) i ∧ qAt (qRs a) i < a.2.1.length) (hsj : 0 ≤ qAt (qRs a) j ∧ qAt (qRs a) j < a.2.1.length) : qP m_Mo_inCommon [qK 176, qI i, qI j, none, none, none] (qT0, m, r) (qI (qIc (qFr' a i) (qFr' a j))) := by
  obtain ⟨⟨b0, b1, b2, b3⟩, bp, bs, br⟩ := id hB
  obtain ⟨l1, l2, l3, l4, l5⟩ := id hl
  have hrl := qRs_len a
  have h3 := l3 (qAt (qRs a) i)
  have hfe : qGf a.2.1 (qAt (qRs a) i) = qFr' a i := rfl
  have hfj : qGf a.2.1 (qAt (qRs a) j) = qFr' a j := rfl
  rw [hfe] at h3
  refine qr_const rfl (w := ?_)
  refine qr_is3 rfl (w := ?_)
  refine qr_al rfl rfl (w := ?_)
  refine qr_il rfl rfl (w := ?_)
  refine qr_callP rfl (mShapeOf (i := i) h hB hl hi) (qrcv1 kd_176) (w := ?_)
  refine qr_is4 rfl (w := ?_)
  refine qr_const rfl (w := ?_)
  refine qr_is5 rfl (w := ?_)
  refine qW2 (mInCommon_loop h hB hl hi hj hsi hsj (qFr' a i).length 0 0 (by omega) (by omega) (by omega)) (congrArg qI ?_)
  rw [Int.zero_add]
  rfl
theorem mLike_loop (h : qE r) {a : qAS} (hB : qMb (m 177) a) (hl : qMl a) (hR : qRk a) {x : Int} (hx : qAt (qRs a) x ≠ -9) : ∀ (k i : Nat) (b n c : Int) (y1 y2 : qA), i + k = a.2.2.2.length → ((b = -9 ∧ n = -1 ∧ c = 0) ∨ (b ≠ -9 ∧ n = c)) → qP2 m_Mo_like 18 [qK 176, qI x, qI b, qI c, qI i, y1, y2] (qT0, m, r) (qI (qLk (qRs a) a.2.1 x k i b n)) := by
  obtain ⟨⟨b0, b1, b2, b3⟩, bp, bs, br⟩ := id hB
  obtain ⟨l1, l2, l3, l4, l5⟩ := id hl
  have hrl := qRs_len a
  have hx2 := qHas_lt hx
  have hRx := hR x
  intro k
  induction k with
  | zero =>
    intro i b n c y1 y2 hik hbn
    unfold qP2
    refine qr_il rfl rfl (w := ?_)
    refine qr_al rfl rfl (w := ?_)
    refine qr_gr rfl kd_176 (hr := (rf_8_0 h)) (w := ?_)
    refine qr_const rfl (w := ?_)
    refine qr_ia rfl kd_177 (by omega) (w := ?_)
    refine qr_icge rfl (fun hc => ?_) (fun hc => ?_)
    · refine qr_il rfl rfl (w := ?_)
      refine qW_ireturn rfl ?_
      exact ⟨rfl, rfl⟩
    · exact absurd hc (by omega)
  | succ k ih =>
    intro i b n c y1 y2 hik hbn
    have hRi := hR i
    have hic := qIc_le (qFr' a x) (qFr' a i)
    have hf1 : qGf a.2.1 (qAt (qRs a) x) = qFr' a x := rfl
    have hf2 : qGf a.2.1 (qAt (qRs a) i) = qFr' a i := rfl
    unfold qP2
    simp only [qLk]
    rw [hf1, hf2]
    refine qr_il rfl rfl (w := ?_)
    refine qr_al rfl rfl (w := ?_)
    refine qr_gr rfl kd_176 (hr := (rf_8_0 h)) (w := ?_)
    refine qr_const rfl (w := ?_)
    refine qr_ia rfl kd_177 (by omega) (w := ?_)
    refine qr_icge rfl (fun hc => ?_) (fun hc => ?_)
    · exact absurd hc (by omega)
    · refine qr_il rfl rfl (w := ?_)
      refine qr_il rfl rfl (w := ?_)
      refine qr_iceq rfl (fun hcf => ?_) (fun hcf => ?_)
      · refine qr_inc4 rfl (by omega) (w := ?_)
        refine qr_goto rfl (w := ?_)
        first
          | (have hq : ¬ ((i : Int) ≠ x ∧ qAt (qRs a) i ≠ -9 ∧ n < qIc (qFr' a x) (qFr' a i)) := fun e => by omega
             rw [if_neg hq]
             exact ih (i + 1) _ _ _ _ _ (by omega) (by omega))
          | (have hq : ((i : Int) ≠ x ∧ qAt (qRs a) i ≠ -9 ∧ n < qIc (qFr' a x) (qFr' a i)) := ⟨by omega, by omega, by omega⟩
             rw [if_pos hq]
             exact ih (i + 1) _ _ _ _ _ (by omega) (by omega))
      · refine qr_al rfl rfl (w := ?_)
        refine qr_il rfl rfl (w := ?_)
        refine qr_callP rfl (mShapeOf (i := i) h hB hl (by omega)) (qrcv1 kd_176) (w := ?_)
        refine qr_const rfl (w := ?_)
        refine qr_iceq rfl (fun hcff => ?_) (fun hcff => ?_)
        · refine qr_inc4 rfl (by omega) (w := ?_)
          refine qr_goto rfl (w := ?_)
          first
            | (have hq : ¬ ((i : Int) ≠ x ∧ qAt (qRs a) i ≠ -9 ∧ n < qIc (qFr' a x) (qFr' a i)) := fun e => by omega
               rw [if_neg hq]
               exact ih (i + 1) _ _ _ _ _ (by omega) (by omega))
            | (have hq : ((i : Int) ≠ x ∧ qAt (qRs a) i ≠ -9 ∧ n < qIc (qFr' a x) (qFr' a i)) := ⟨by omega, by omega, by omega⟩
               rw [if_pos hq]
               exact ih (i + 1) _ _ _ _ _ (by omega) (by omega))
        · refine qr_al rfl rfl (w := ?_)
          refine qr_il rfl rfl (w := ?_)
          refine qr_il rfl rfl (w := ?_)
          refine qr_callP rfl (mInCommon (i := x) (j := i) h hB hl (by omega) (by omega) (by omega) (by omega)) (qrcv1 kd_176) (w := ?_)
          refine qr_is5 rfl (w := ?_)
          refine qr_il rfl rfl (w := ?_)
          refine qr_const rfl (w := ?_)
          refine qr_iceq rfl (fun hcfff => ?_) (fun hcfff => ?_)
          · refine qr_const rfl (w := ?_)
            refine qr_goto rfl (w := ?_)
            refine qr_is6 rfl (w := ?_)
            refine qr_il rfl rfl (w := ?_)
            refine qr_ifeq rfl (fun hcffft => ?_) (fun hcffft => ?_)
            · refine qr_il rfl rfl (w := ?_)
              refine qr_is2 rfl (w := ?_)
              refine qr_il rfl rfl (w := ?_)
              refine qr_ifeq rfl (fun hcffftt => ?_) (fun hcffftt => ?_)
              · refine qr_il rfl rfl (w := ?_)
                refine qr_is3 rfl (w := ?_)
                refine qr_inc4 rfl (by omega) (w := ?_)
                refine qr_goto rfl (w := ?_)
                first
                  | (have hq : ¬ ((i : Int) ≠ x ∧ qAt (qRs a) i ≠ -9 ∧ n < qIc (qFr' a x) (qFr' a i)) := fun e => by omega
                     rw [if_neg hq]
                     exact ih (i + 1) _ _ _ _ _ (by omega) (by omega))
                  | (have hq : ((i : Int) ≠ x ∧ qAt (qRs a) i ≠ -9 ∧ n < qIc (qFr' a x) (qFr' a i)) := ⟨by omega, by omega, by omega⟩
                     rw [if_pos hq]
                     exact ih (i + 1) _ _ _ _ _ (by omega) (by omega))
              · refine qr_il rfl rfl (w := ?_)
                refine qr_goto rfl (w := ?_)
                refine qr_is3 rfl (w := ?_)
                refine qr_inc4 rfl (by omega) (w := ?_)
                refine qr_goto rfl (w := ?_)
                first
                  | (have hq : ¬ ((i : Int) ≠ x ∧ qAt (qRs a) i ≠ -9 ∧ n < qIc (qFr' a x) (qFr' a i)) := fun e => by omega
                     rw [if_neg hq]
                     exact ih (i + 1) _ _ _ _ _ (by omega) (by omega))
                  | (have hq : ((i : Int) ≠ x ∧ qAt (qRs a) i ≠ -9 ∧ n < qIc (qFr' a x) (qFr' a i)) := ⟨by omega, by omega, by omega⟩
                     rw [if_pos hq]
                     exact ih (i + 1) _ _ _ _ _ (by omega) (by omega))
            · refine qr_il rfl rfl (w := ?_)
              refine qr_goto rfl (w := ?_)
              refine qr_is2 rfl (w := ?_)
              refine qr_il rfl rfl (w := ?_)
              refine qr_ifeq rfl (fun hcffftf => ?_) (fun hcffftf => ?_)
              · refine qr_il rfl rfl (w := ?_)
                refine qr_is3 rfl (w := ?_)
                refine qr_inc4 rfl (by omega) (w := ?_)
                refine qr_goto rfl (w := ?_)
                first
                  | (have hq : ¬ ((i : Int) ≠ x ∧ qAt (qRs a) i ≠ -9 ∧ n < qIc (qFr' a x) (qFr' a i)) := fun e => by omega
                     rw [if_neg hq]
                     exact ih (i + 1) _ _ _ _ _ (by omega) (by omega))
                  | (have hq : ((i : Int) ≠ x ∧ qAt (qRs a) i ≠ -9 ∧ n < qIc (qFr' a x) (qFr' a i)) := ⟨by omega, by omega, by omega⟩
                     rw [if_pos hq]
                     exact ih (i + 1) _ _ _ _ _ (by omega) (by omega))
              · refine qr_il rfl rfl (w := ?_)
                refine qr_goto rfl (w := ?_)
                refine qr_is3 rfl (w := ?_)
                refine qr_inc4 rfl (by omega) (w := ?_)
                refine qr_goto rfl (w := ?_)
                first
                  | (have hq : ¬ ((i : Int) ≠ x ∧ qAt (qRs a) i ≠ -9 ∧ n < qIc (qFr' a x) (qFr' a i)) := fun e => by omega
                     rw [if_neg hq]
                     exact ih (i + 1) _ _ _ _ _ (by omega) (by omega))
                  | (have hq : ((i : Int) ≠ x ∧ qAt (qRs a) i ≠ -9 ∧ n < qIc (qFr' a x) (qFr' a i)) := ⟨by omega, by omega, by omega⟩
                     rw [if_pos hq]
                     exact ih (i + 1) _ _ _ _ _ (by omega) (by omega))
          · refine qr_il rfl rfl (w := ?_)
            refine qr_il rfl rfl (w := ?_)
            refine qr_icle rfl (fun hcffff => ?_) (fun hcffff => ?_)
            · refine qr_const rfl (w := ?_)
              refine qr_is6 rfl (w := ?_)
              refine qr_il rfl rfl (w := ?_)
              refine qr_ifeq rfl (fun hcfffft => ?_) (fun hcfffft => ?_)
              · refine qr_il rfl rfl (w := ?_)
                refine qr_is2 rfl (w := ?_)
                refine qr_il rfl rfl (w := ?_)
                refine qr_ifeq rfl (fun hcfffftt => ?_) (fun hcfffftt => ?_)
                · refine qr_il rfl rfl (w := ?_)
                  refine qr_is3 rfl (w := ?_)
                  refine qr_inc4 rfl (by omega) (w := ?_)
                  refine qr_goto rfl (w := ?_)
                  first
                    | (have hq : ¬ ((i : Int) ≠ x ∧ qAt (qRs a) i ≠ -9 ∧ n < qIc (qFr' a x) (qFr' a i)) := fun e => by omega
                       rw [if_neg hq]
                       exact ih (i + 1) _ _ _ _ _ (by omega) (by omega))
                    | (have hq : ((i : Int) ≠ x ∧ qAt (qRs a) i ≠ -9 ∧ n < qIc (qFr' a x) (qFr' a i)) := ⟨by omega, by omega, by omega⟩
                       rw [if_pos hq]
                       exact ih (i + 1) _ _ _ _ _ (by omega) (by omega))
                · refine qr_il rfl rfl (w := ?_)
                  refine qr_goto rfl (w := ?_)
                  refine qr_is3 rfl (w := ?_)
                  refine qr_inc4 rfl (by omega) (w := ?_)
                  refine qr_goto rfl (w := ?_)
                  first
                    | (have hq : ¬ ((i : Int) ≠ x ∧ qAt (qRs a) i ≠ -9 ∧ n < qIc (qFr' a x) (qFr' a i)) := fun e => by omega
                       rw [if_neg hq]
                       exact ih (i + 1) _ _ _ _ _ (by omega) (by omega))
                    | (have hq : ((i : Int) ≠ x ∧ qAt (qRs a) i ≠ -9 ∧ n < qIc (qFr' a x) (qFr' a i)) := ⟨by omega, by omega, by omega⟩
                       rw [if_pos hq]
                       exact ih (i + 1) _ _ _ _ _ (by omega) (by omega))
              · refine qr_il rfl rfl (w := ?_)
                refine qr_goto rfl (w := ?_)
                refine qr_is2 rfl (w := ?_)
                refine qr_il rfl rfl (w := ?_)
                refine qr_ifeq rfl (fun hcfffftf => ?_) (fun hcfffftf => ?_)
                · refine qr_il rfl rfl (w := ?_)
                  refine qr_is3 rfl (w := ?_)
                  refine qr_inc4 rfl (by omega) (w := ?_)
                  refine qr_goto rfl (w := ?_)
                  first
                    | (have hq : ¬ ((i : Int) ≠ x ∧ qAt (qRs a) i ≠ -9 ∧ n < qIc (qFr' a x) (qFr' a i)) := fun e => by omega
                       rw [if_neg hq]
                       exact ih (i + 1) _ _ _ _ _ (by omega) (by omega))
                    | (have hq : ((i : Int) ≠ x ∧ qAt (qRs a) i ≠ -9 ∧ n < qIc (qFr' a x) (qFr' a i)) := ⟨by omega, by omega, by omega⟩
                       rw [if_pos hq]
                       exact ih (i + 1) _ _ _ _ _ (by omega) (by omega))
                · refine qr_il rfl rfl (w := ?_)
                  refine qr_goto rfl (w := ?_)
                  refine qr_is3 rfl (w := ?_)
                  refine qr_inc4 rfl (by omega) (w := ?_)
                  refine qr_goto rfl (w := ?_)
                  first
                    | (have hq : ¬ ((i : Int) ≠ x ∧ qAt (qRs a) i ≠ -9 ∧ n < qIc (qFr' a x) (qFr' a i)) := fun e => by omega
                       rw [if_neg hq]
                       exact ih (i + 1) _ _ _ _ _ (by omega) (by omega))
                    | (have hq : ((i : Int) ≠ x ∧ qAt (qRs a) i ≠ -9 ∧ n < qIc (qFr' a x) (qFr' a i)) := ⟨by omega, by omega, by omega⟩
                       rw [if_pos hq]
                       exact ih (i + 1) _ _ _ _ _ (by omega) (by omega))
            · refine qr_const rfl (w := ?_)
              refine qr_goto rfl (w := ?_)
              refine qr_is6 rfl (w := ?_)
              refine qr_il rfl rfl (w := ?_)
              refine qr_ifeq rfl (fun hcfffff => ?_) (fun hcfffff => ?_)
              · refine qr_il rfl rfl (w := ?_)
                refine qr_is2 rfl (w := ?_)
                refine qr_il rfl rfl (w := ?_)
                refine qr_ifeq rfl (fun hcffffft => ?_) (fun hcffffft => ?_)
                · refine qr_il rfl rfl (w := ?_)
                  refine qr_is3 rfl (w := ?_)
                  refine qr_inc4 rfl (by omega) (w := ?_)
                  refine qr_goto rfl (w := ?_)
                  first
                    | (have hq : ¬ ((i : Int) ≠ x ∧ qAt (qRs a) i ≠ -9 ∧ n < qIc (qFr' a x) (qFr' a i)) := fun e => by omega
                       rw [if_neg hq]
                       exact ih (i + 1) _ _ _ _ _ (by omega) (by omega))
                    | (have hq : ((i : Int) ≠ x ∧ qAt (qRs a) i ≠ -9 ∧ n < qIc (qFr' a x) (qFr' a i)) := ⟨by omega, by omega, by omega⟩
                       rw [if_pos hq]
                       exact ih (i + 1) _ _ _ _ _ (by omega) (by omega))
                · refine qr_il rfl rfl (w := ?_)
                  refine qr_goto rfl (w := ?_)
                  refine qr_is3 rfl (w := ?_)
                  refine qr_inc4 rfl (by omega) (w := ?_)
                  refine qr_goto rfl (w := ?_)
                  first
                    | (have hq : ¬ ((i : Int) ≠ x ∧ qAt (qRs a) i ≠ -9 ∧ n < qIc (qFr' a x) (qFr' a i)) := fun e => by omega
                       rw [if_neg hq]
                       exact ih (i + 1) _ _ _ _ _ (by omega) (by omega))
                    | (have hq : ((i : Int) ≠ x ∧ qAt (qRs a) i ≠ -9 ∧ n < qIc (qFr' a x) (qFr' a i)) := ⟨by omega, by omega, by omega⟩
                       rw [if_pos hq]
                       exact ih (i + 1) _ _ _ _ _ (by omega) (by omega))
              · refine qr_il rfl rfl (w := ?_)
                refine qr_goto rfl (w := ?_)
                refine qr_is2 rfl (w := ?_)
                refine qr_il rfl rfl (w := ?_)
                refine qr_ifeq rfl (fun hcffffff => ?_) (fun hcffffff => ?_)
                · refine qr_il rfl rfl (w := ?_)
                  refine qr_is3 rfl (w := ?_)
                  refine qr_inc4 rfl (by omega) (w := ?_)
                  refine qr_goto rfl (w := ?_)
                  first
                    | (have hq : ¬ ((i : Int) ≠ x ∧ qAt (qRs a) i ≠ -9 ∧ n < qIc (qFr' a x) (qFr' a i)) := fun e => by omega
                       rw [if_neg hq]
                       exact ih (i + 1) _ _ _ _ _ (by omega) (by omega))
                    | (have hq : ((i : Int) ≠ x ∧ qAt (qRs a) i ≠ -9 ∧ n < qIc (qFr' a x) (qFr' a i)) := ⟨by omega, by omega, by omega⟩
                       rw [if_pos hq]
                       exact ih (i + 1) _ _ _ _ _ (by omega) (by omega))
                · refine qr_il rfl rfl (w := ?_)
                  refine qr_goto rfl (w := ?_)
                  refine qr_is3 rfl (w := ?_)
                  refine qr_inc4 rfl (by omega) (w := ?_)
                  refine qr_goto rfl (w := ?_)
                  first
                    | (have hq : ¬ ((i : Int) ≠ x ∧ qAt (qRs a) i ≠ -9 ∧ n < qIc (qFr' a x) (qFr' a i)) := fun e => by omega
                       rw [if_neg hq]
                       exact ih (i + 1) _ _ _ _ _ (by omega) (by omega))
                    | (have hq : ((i : Int) ≠ x ∧ qAt (qRs a) i ≠ -9 ∧ n < qIc (qFr' a x) (qFr' a i)) := ⟨by omega, by omega, by omega⟩
                       rw [if_pos hq]
                       exact ih (i + 1) _ _ _ _ _ (by omega) (by omega))
theorem mLike (h : qE r) {a : qAS} (hB : qMb (m 177) a) (hl : qMl a) (hR : qRk a) {x : Int} : qP m_Mo_like [qK 176, qI x, none, none, none, none, none] (qT0, m, r) (qI (qLike (qRs a) a.2.1 x)) := by
  obtain ⟨⟨b0, b1, b2, b3⟩, bp, bs, br⟩ := id hB
  obtain ⟨l1, l2, l3, l4, l5⟩ := id hl
  have hrl := qRs_len a
  unfold qLike
  refine qr_al rfl rfl (w := ?_)
  refine qr_il rfl rfl (w := ?_)
  refine qr_callP rfl (mIsRecord h hB hl) (qrcv1 kd_176) (w := ?_)
  refine qr_ifneB rfl (fun hc => ?_) (fun hc => ?_)
  · refine qr_const rfl (w := ?_)
    refine qr_is2 rfl (w := ?_)
    refine qr_const rfl (w := ?_)
    refine qr_is3 rfl (w := ?_)
    refine qr_const rfl (w := ?_)
    refine qr_is4 rfl (w := ?_)
    have hx := of_decide_eq_true hc
    rw [if_pos hx]
    have e : a.2.2.2.length = (qRs a).length := hrl.symm
    rw [← e]
    exact mLike_loop h hB hl hR hx a.2.2.2.length 0 (-9) (-1) 0 none none (by omega) (Or.inl ⟨rfl, rfl, rfl⟩)
  · refine qr_const rfl (w := ?_)
    refine qW_ireturn rfl ?_
    refine ⟨congrArg qI ?_, rfl⟩
    rw [if_neg (of_decide_eq_false hc)]
theorem mColumn_loop (h : qE r) {a : qAS} (hB : qMb (m 177) a) (hl : qMl a) (hR : qRk a) (hV : qRv a) {s lf x : Int} (hs : 0 ≤ s ∧ s < a.2.1.length) (hlf : 0 ≤ lf) : ∀ (k i : Nat) (n : Int), i + k = a.2.2.2.length → 0 ≤ n → qin n → qP2 m_Mo_column 41 [qK 176, qI s, qI lf, qI x, qI n, qI i] (qT0, m, r) (qI (if qNt ((qRs a).drop i) s n i = -9 ∨ qLv (qGf a.2.1 s) ≤ lf then -9 else qVv a (qNt ((qRs a).drop i) s n i) lf)) := by
  obtain ⟨⟨b0, b1, b2, b3⟩, bp, bs, br⟩ := id hB
  obtain ⟨l1, l2, l3, l4, l5⟩ := id hl
  have hrl := qRs_len a
  intro k
  induction k with
  | zero =>
    intro i n hik hn hq
    rw [qdrop_nil (by omega)]
    unfold qP2
    refine qr_il rfl rfl (w := ?_)
    refine qr_al rfl rfl (w := ?_)
    refine qr_gr rfl kd_176 (hr := (rf_8_0 h)) (w := ?_)
    refine qr_const rfl (w := ?_)
    refine qr_ia rfl kd_177 (by omega) (w := ?_)
    refine qr_icge rfl (fun hc => ?_) (fun hc => ?_)
    · refine qr_const rfl (w := ?_)
      refine qW_ireturn rfl ?_
      exact ⟨by simp only [qNt, true_or, if_true], rfl⟩
    · exact absurd hc (by omega)
  | succ k ih =>
    intro i n hik hn hq
    rw [qdrop (by omega)]
    have e := qAt_lt (l := qRs a) (i := i) (by omega)
    rw [← e]
    have hVi := hV i
    unfold qFr' at hVi
    unfold qP2
    refine qr_il rfl rfl (w := ?_)
    refine qr_al rfl rfl (w := ?_)
    refine qr_gr rfl kd_176 (hr := (rf_8_0 h)) (w := ?_)
    refine qr_const rfl (w := ?_)
    refine qr_ia rfl kd_177 (by omega) (w := ?_)
    refine qr_icge rfl (fun hc => ?_) (fun hc => ?_)
    · refine qr_const rfl (w := ?_)
      refine qW_ireturn rfl ?_
      refine ⟨congrArg qI ?_, rfl⟩
      first
        | exact absurd hc (by omega)
        | (have hor : qNt (qAt (qRs a) i :: List.drop (i + 1) (qRs a)) s n i = -9 ∨ qLv (qGf a.2.1 s) ≤ lf := Or.inr (by omega)
           rw [if_pos hor])
        | (have hE : qNt (qAt (qRs a) i :: List.drop (i + 1) (qRs a)) s n i = i := by
             simp only [qNt]
             rw [if_pos (by omega), if_pos (by omega)]
           rw [hE, if_neg (by omega)])
    · refine qr_il rfl rfl (w := ?_)
      refine qr_al rfl rfl (w := ?_)
      refine qr_il rfl rfl (w := ?_)
      refine qr_callP rfl (mLeavesOf (s := s) h hB hl (by omega)) (qrcv1 kd_176) (w := ?_)
      refine qr_icge rfl (fun hcf => ?_) (fun hcf => ?_)
      · refine qr_const rfl (w := ?_)
        refine qW_ireturn rfl ?_
        refine ⟨congrArg qI ?_, rfl⟩
        first
          | exact absurd hc (by omega)
          | (have hor : qNt (qAt (qRs a) i :: List.drop (i + 1) (qRs a)) s n i = -9 ∨ qLv (qGf a.2.1 s) ≤ lf := Or.inr (by omega)
             rw [if_pos hor])
          | (have hE : qNt (qAt (qRs a) i :: List.drop (i + 1) (qRs a)) s n i = i := by
               simp only [qNt]
               rw [if_pos (by omega), if_pos (by omega)]
             rw [hE, if_neg (by omega)])
      · refine qr_al rfl rfl (w := ?_)
        refine qr_il rfl rfl (w := ?_)
        refine qr_callP rfl (mShapeOf (i := i) h hB hl (by omega)) (qrcv1 kd_176) (w := ?_)
        refine qr_il rfl rfl (w := ?_)
        refine qr_icne rfl (fun hcff => ?_) (fun hcff => ?_)
        · refine qr_inc5 rfl (by omega) (w := ?_)
          refine qr_goto rfl (w := ?_)
          have hE : qNt (qAt (qRs a) i :: List.drop (i + 1) (qRs a)) s n i = qNt (List.drop (i + 1) (qRs a)) s n (i + 1) := by
            simp only [qNt]
            rw [if_neg (by omega)]
          rw [hE]
          exact ih (i + 1) n (by omega) hn hq
        · refine qr_il rfl rfl (w := ?_)
          refine qr_ifne rfl (fun hcfff => ?_) (fun hcfff => ?_)
          · refine qr_inc4 rfl (by omega) (w := ?_)
            refine qr_inc5 rfl (by omega) (w := ?_)
            refine qr_goto rfl (w := ?_)
            have hE : qNt (qAt (qRs a) i :: List.drop (i + 1) (qRs a)) s n i = qNt (List.drop (i + 1) (qRs a)) s (n - 1) (i + 1) := by
              simp only [qNt]
              rw [if_pos (by omega), if_neg (by omega)]
            rw [hE]
            exact ih (i + 1) (n - 1) (by omega) (by omega) (by omega)
          · refine qr_al rfl rfl (w := ?_)
            refine qr_il rfl rfl (w := ?_)
            refine qr_il rfl rfl (w := ?_)
            have hve := hcff
            rw [hcff] at hVi
            have hv2 := (hVi (by omega)).1
            refine qr_callP rfl (mValueOf (i := i) (j := lf) h hB hl (by omega) (by omega)) (qrcv1 kd_176) (w := ?_)
            refine qW_ireturn rfl ?_
            refine ⟨congrArg qI ?_, rfl⟩
            first
              | exact absurd hc (by omega)
              | (have hor : qNt (qAt (qRs a) i :: List.drop (i + 1) (qRs a)) s n i = -9 ∨ qLv (qGf a.2.1 s) ≤ lf := Or.inr (by omega)
                 rw [if_pos hor])
              | (have hE : qNt (qAt (qRs a) i :: List.drop (i + 1) (qRs a)) s n i = i := by
                   simp only [qNt]
                   rw [if_pos (by omega), if_pos (by omega)]
                 rw [hE, if_neg (by omega)])
