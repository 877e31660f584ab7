/-! The reference's sizes, costs, sums over records -/
variable {m : Nat → Int → Int} {r : Nat → Int → Option Nat}
theorem qNe_rm (rs : List Int) : qNe rs = qRm (fun _ => 1) rs := by
  induction rs with
  | nil => rfl
  | cons x t ih =>
    simp only [qNe, qRm]
    rw [ih]
    by_cases hx : x = -9
    · rw [if_neg (fun e => e hx), if_pos hx]
    · rw [if_pos hx, if_neg hx]
theorem qLp_none (fs : List Int) (p : Int) : ∀ a, 0 ≤ a → (qLp fs p a = -9 ↔ ¬ p ∈ fs) := by
  induction fs with
  | nil => intro a _; simp [qLp]
  | cons f t ih =>
    intro a ha
    simp only [qLp]
    by_cases h : f = p
    · rw [if_pos h]
      subst h
      simp
      omega
    · rw [if_neg h, ih _ (by split <;> omega)]
      simp only [List.mem_cons, not_or]
      exact ⟨fun e => ⟨fun e2 => h e2.symm, e⟩, fun e => e.2⟩
theorem mSizeBy2_loop (h : qE r) {a : qAS} (hB : qMb (m 177) a) (hl : qMl a) (hR : qRk a) {b : Int} : ∀ (k i : Nat) (c : Int) (y : qA), i + k = a.2.2.2.length → 0 ≤ c → c ≤ 900 + 41 * i → qP2 m_Mo_sizeBy 45 [qK 176, qI b, qI c, qI i, y] (qT0, m, r) (qI (c + qSm k i (fun i => if qAt (qRs a) i = -9 then 0 else 1 + (if b ≤ qCt (qRs a) (qAt (qRs a) i) then qLv (qGf a.2.1 (qAt (qRs a) i)) else qLv (qGf a.2.1 (qAt (qRs a) i)) + (qGf a.2.1 (qAt (qRs a) i)).length)))) := by
  obtain ⟨⟨b0, b1, b2, b3⟩, bp, bs, br⟩ := id hB
  obtain ⟨l1, l2, l3, l4, l5⟩ := id hl
  have hrl := qRs_len a
  intro k
  induction k with
  | zero =>
    intro i c y hik hc0 hc1
    unfold qP2
    refine qr_il rfl rfl (w := ?_)
    refine qr_al rfl rfl (w := ?_)
    refine qr_gr rfl kd_176 (hr := (rf_8_0 h)) (w := ?_)
    refine qr_const rfl (w := ?_)
    refine qr_ia rfl kd_177 (by omega) (w := ?_)
    refine qr_icge rfl (fun hc => ?_) (fun hc => ?_)
    · refine qr_il rfl rfl (w := ?_)
      refine qW_ireturn rfl ?_
      exact ⟨by simp [qSm], rfl⟩
    · exact absurd hc (by omega)
  | succ k ih =>
    intro i c y hik hc0 hc1
    unfold qP2
    simp only [qSm]
    have hRi := hR i
    have h3 := l3 (qAt (qRs a) i)
    have h4 := qLv_le (qGf a.2.1 (qAt (qRs a) i))
    refine qr_il rfl rfl (w := ?_)
    refine qr_al rfl rfl (w := ?_)
    refine qr_gr rfl kd_176 (hr := (rf_8_0 h)) (w := ?_)
    refine qr_const rfl (w := ?_)
    refine qr_ia rfl kd_177 (by omega) (w := ?_)
    refine qr_icge rfl (fun hc => ?_) (fun hc => ?_)
    · exact absurd hc (by omega)
    · refine qr_al rfl rfl (w := ?_)
      refine qr_il rfl rfl (w := ?_)
      refine qr_callP rfl (mShapeOf (i := i) h hB hl (by omega)) (qrcv1 kd_176) (w := ?_)
      refine qr_is4 rfl (w := ?_)
      refine qr_il rfl rfl (w := ?_)
      refine qr_const rfl (w := ?_)
      refine qr_iceq rfl (fun hcf => ?_) (fun hcf => ?_)
      · refine qr_inc3 rfl (by omega) (w := ?_)
        refine qr_goto rfl (w := ?_)
        refine qW2 (ih (i + 1) _ _ (by omega) (by omega) (by omega)) (congrArg qI ?_)
        try simp only [decide_eq_true_eq, decide_eq_false_iff_not] at *
        first
          | (rw [if_pos (by assumption)]; omega)
          | (rw [if_neg (by assumption), if_pos (by assumption)]; omega)
          | (rw [if_neg (by assumption), if_neg (by omega)]; omega)
      · refine qr_il rfl rfl (w := ?_)
        refine qr_const rfl (w := ?_)
        refine qr_al rfl rfl (w := ?_)
        refine qr_il rfl rfl (w := ?_)
        refine qr_il rfl rfl (w := ?_)
        refine qr_callP rfl (mIsCommon h hB hl) (qrcv1 kd_176) (w := ?_)
        refine qr_ifeqB rfl (fun hcff => ?_) (fun hcff => ?_)
        · refine qr_al rfl rfl (w := ?_)
          refine qr_il rfl rfl (w := ?_)
          refine qr_callP rfl (mLeavesOf (s := qAt (qRs a) i) h hB hl (by omega)) (qrcv1 kd_176) (w := ?_)
          refine qr_al rfl rfl (w := ?_)
          refine qr_il rfl rfl (w := ?_)
          refine qr_callP rfl (mFieldsOf (s := qAt (qRs a) i) h hB hl (by omega)) (qrcv1 kd_176) (w := ?_)
          refine qr_add rfl (by omega) (w := ?_)
          refine qr_add rfl (by omega) (w := ?_)
          refine qr_add rfl (by omega) (w := ?_)
          refine qr_is2 rfl (w := ?_)
          refine qr_inc3 rfl (by omega) (w := ?_)
          refine qr_goto rfl (w := ?_)
          refine qW2 (ih (i + 1) _ _ (by omega) (by omega) (by omega)) (congrArg qI ?_)
          try simp only [decide_eq_true_eq, decide_eq_false_iff_not] at *
          first
            | (rw [if_pos (by assumption)]; omega)
            | (rw [if_neg (by assumption), if_pos (by assumption)]; omega)
            | (rw [if_neg (by assumption), if_neg (by omega)]; omega)
        · refine qr_al rfl rfl (w := ?_)
          refine qr_il rfl rfl (w := ?_)
          refine qr_callP rfl (mLeavesOf (s := qAt (qRs a) i) h hB hl (by omega)) (qrcv1 kd_176) (w := ?_)
          refine qr_goto rfl (w := ?_)
          refine qr_add rfl (by omega) (w := ?_)
          refine qr_add rfl (by omega) (w := ?_)
          refine qr_is2 rfl (w := ?_)
          refine qr_inc3 rfl (by omega) (w := ?_)
          refine qr_goto rfl (w := ?_)
          refine qW2 (ih (i + 1) _ _ (by omega) (by omega) (by omega)) (congrArg qI ?_)
          try simp only [decide_eq_true_eq, decide_eq_false_iff_not] at *
          first
            | (rw [if_pos (by assumption)]; omega)
            | (rw [if_neg (by assumption), if_pos (by assumption)]; omega)
            | (rw [if_neg (by assumption), if_neg (by omega)]; omega)
theorem mSizeBy_loop (h : qE r) {a : qAS} (hB : qMb (m 177) a) (hl : qMl a) (hR : qRk a) {b : Int} : ∀ (k i : Nat) (c : Int) (y : qA), i + k = a.2.1.length → 0 ≤ c → c ≤ 21 * i → qP2 m_Mo_sizeBy 4 [qK 176, qI b, qI c, qI i, y] (qT0, m, r) (qI (c + qSm k i (fun i => if b ≤ qCt (qRs a) i then 1 + ((qGf a.2.1 i).length : Int) else 0) + qSm a.2.2.2.length 0 (fun i => if qAt (qRs a) i = -9 then 0 else 1 + (if b ≤ qCt (qRs a) (qAt (qRs a) i) then qLv (qGf a.2.1 (qAt (qRs a) i)) else qLv (qGf a.2.1 (qAt (qRs a) i)) + (qGf a.2.1 (qAt (qRs a) i)).length)))) := by
  obtain ⟨⟨b0, b1, b2, b3⟩, bp, bs, br⟩ := id hB
  obtain ⟨l1, l2, l3, l4, l5⟩ := id hl
  have hrl := qRs_len a
  intro k
  induction k with
  | zero =>
    intro i c y hik hc0 hc1
    unfold qP2
    refine qr_il rfl rfl (w := ?_)
    refine qr_al rfl rfl (w := ?_)
    refine qr_gr rfl kd_176 (hr := (rf_8_0 h)) (w := ?_)
    refine qr_const rfl (w := ?_)
    refine qr_ia rfl kd_177 (by omega) (w := ?_)
    refine qr_icge rfl (fun hc => ?_) (fun hc => ?_)
    · refine qr_const rfl (w := ?_)
      refine qr_is3 rfl (w := ?_)
      refine qW2 (mSizeBy2_loop h hB hl hR a.2.2.2.length 0 c y (by omega) (by omega) (by omega)) (congrArg qI ?_)
      simp only [qSm]
      omega
    · exact absurd hc (by omega)
  | succ k ih =>
    intro i c y hik hc0 hc1
    unfold qP2
    simp only [qSm]
    have h3 := l3 i
    refine qr_il rfl rfl (w := ?_)
    refine qr_al rfl rfl (w := ?_)
    refine qr_gr rfl kd_176 (hr := (rf_8_0 h)) (w := ?_)
    refine qr_const rfl (w := ?_)
    refine qr_ia rfl kd_177 (by omega) (w := ?_)
    refine qr_icge rfl (fun hc => ?_) (fun hc => ?_)
    · exact absurd hc (by omega)
    · refine qr_il rfl rfl (w := ?_)
      refine qr_al rfl rfl (w := ?_)
      refine qr_il rfl rfl (w := ?_)
      refine qr_il rfl rfl (w := ?_)
      refine qr_callP rfl (mIsCommon h hB hl) (qrcv1 kd_176) (w := ?_)
      refine qr_ifeqB rfl (fun hcf => ?_) (fun hcf => ?_)
      · refine qr_const rfl (w := ?_)
        refine qr_add rfl (by omega) (w := ?_)
        refine qr_is2 rfl (w := ?_)
        refine qr_inc3 rfl (by omega) (w := ?_)
        refine qr_goto rfl (w := ?_)
        refine qW2 (ih (i + 1) _ _ (by omega) (by omega) (by omega)) (congrArg qI ?_)
        simp only [decide_eq_true_eq, decide_eq_false_iff_not] at *
        first
          | (rw [if_pos (by assumption)]; omega)
          | (rw [if_neg (by omega)]; omega)
      · refine qr_const rfl (w := ?_)
        refine qr_al rfl rfl (w := ?_)
        refine qr_il rfl rfl (w := ?_)
        refine qr_callP rfl (mFieldsOf (s := i) h hB hl (by omega)) (qrcv1 kd_176) (w := ?_)
        refine qr_add rfl (by omega) (w := ?_)
        refine qr_goto rfl (w := ?_)
        refine qr_add rfl (by omega) (w := ?_)
        refine qr_is2 rfl (w := ?_)
        refine qr_inc3 rfl (by omega) (w := ?_)
        refine qr_goto rfl (w := ?_)
        refine qW2 (ih (i + 1) _ _ (by omega) (by omega) (by omega)) (congrArg qI ?_)
        simp only [decide_eq_true_eq, decide_eq_false_iff_not] at *
        first
          | (rw [if_pos (by assumption)]; omega)
          | (rw [if_neg (by omega)]; omega)
theorem mSizeBy (h : qE r) {a : qAS} (hB : qMb (m 177) a) (hl : qMl a) (hR : qRk a) {b : Int} : qP m_Mo_sizeBy [qK 176, qI b, none, none, none] (qT0, m, r) (qI (qSz (qRs a) a.2.1 b)) := by
  obtain ⟨⟨b0, b1, b2, b3⟩, bp, bs, br⟩ := id hB
  obtain ⟨l1, l2, l3, l4, l5⟩ := id hl
  have hrl := qRs_len a
  refine qr_const rfl (w := ?_)
  refine qr_is2 rfl (w := ?_)
  refine qr_const rfl (w := ?_)
  refine qr_is3 rfl (w := ?_)
  refine qW2 (mSizeBy_loop h hB hl hR a.2.1.length 0 0 none (by omega) (by omega) (by omega)) (congrArg qI ?_)
  rw [Int.zero_add]
  have e2 := qRm_sm (fun x => 1 + (if b ≤ qCt (qRs a) x then qLv (qGf a.2.1 x) else qLv (qGf a.2.1 x) + (qGf a.2.1 x).length)) (qRs a)
  rw [hrl] at e2
  rw [e2, qRm_ex _ a.2.1.length (qRs a) (qRk_mem hR)]
  unfold qSz
  rw [qNe_rm, qRm_ex _ a.2.1.length (qRs a) (qRk_mem hR), ← qSm_add, ← qSm_add]
  refine qSm_congr _ _ (fun j _ _ => ?_)
  split
  · rw [Int.mul_add]
    omega
  · rw [Int.mul_add, show 2 * qLv (qGf a.2.1 (j : Int)) + (((qGf a.2.1 (j : Int)).length : Int) - qLv (qGf a.2.1 (j : Int))) = qLv (qGf a.2.1 (j : Int)) + ((qGf a.2.1 (j : Int)).length : Int) by omega]
    omega
theorem mBestBound_loop (h : qE r) {a : qAS} (hB : qMb (m 177) a) (hl : qMl a) (hR : qRk a) : ∀ (k : Nat) (b c : Int), b + k = 11 → 1 ≤ b → qP2 m_Mo_bestBound 4 [qK 176, qI c, qI b] (qT0, m, r) (qI (qBb (qSz (qRs a) a.2.1) k b c)) := by
  obtain ⟨⟨b0, b1, b2, b3⟩, bp, bs, br⟩ := id hB
  obtain ⟨l1, l2, l3, l4, l5⟩ := id hl
  have hrl := qRs_len a
  intro k
  induction k with
  | zero =>
    intro b c hik hb
    unfold qP2
    refine qr_il rfl rfl (w := ?_)
    refine qr_const rfl (w := ?_)
    refine qr_icge rfl (fun hc => ?_) (fun hc => ?_)
    · refine qr_il rfl rfl (w := ?_)
      refine qW_ireturn rfl ?_
      exact ⟨rfl, rfl⟩
    · exact absurd hc (by omega)
  | succ k ih =>
    intro b c hik hb
    unfold qP2
    simp only [qBb]
    refine qr_il rfl rfl (w := ?_)
    refine qr_const rfl (w := ?_)
    refine qr_icge rfl (fun hc => ?_) (fun hc => ?_)
    · exact absurd hc (by omega)
    · refine qr_al rfl rfl (w := ?_)
      refine qr_il rfl rfl (w := ?_)
      refine qr_callP rfl (mSizeBy h hB hl hR) (qrcv1 kd_176) (w := ?_)
      refine qr_al rfl rfl (w := ?_)
      refine qr_il rfl rfl (w := ?_)
      refine qr_callP rfl (mSizeBy h hB hl hR) (qrcv1 kd_176) (w := ?_)
      refine qr_icge rfl (fun hcf => ?_) (fun hcf => ?_)
      · refine qr_il rfl rfl (w := ?_)
        refine qr_is1 rfl (w := ?_)
        refine qr_inc2 rfl (by omega) (w := ?_)
        refine qr_goto rfl (w := ?_)
        first
          | (rw [if_pos (by assumption)]; exact ih (b + 1) b (by omega) (by omega))
          | (rw [if_neg (by omega)]; exact ih (b + 1) c (by omega) (by omega))
      · refine qr_il rfl rfl (w := ?_)
        refine qr_goto rfl (w := ?_)
        refine qr_is1 rfl (w := ?_)
        refine qr_inc2 rfl (by omega) (w := ?_)
        refine qr_goto rfl (w := ?_)
        first
          | (rw [if_pos (by assumption)]; exact ih (b + 1) b (by omega) (by omega))
          | (rw [if_neg (by omega)]; exact ih (b + 1) c (by omega) (by omega))
theorem mBestBound (h : qE r) {a : qAS} (hB : qMb (m 177) a) (hl : qMl a) (hR : qRk a) : qP m_Mo_bestBound [qK 176, none, none] (qT0, m, r) (qI (qBb (qSz (qRs a) a.2.1) 9 2 1)) := by
  obtain ⟨⟨b0, b1, b2, b3⟩, bp, bs, br⟩ := id hB
  obtain ⟨l1, l2, l3, l4, l5⟩ := id hl
  have hrl := qRs_len a
  refine qr_const rfl (w := ?_)
  refine qr_is1 rfl (w := ?_)
  refine qr_const rfl (w := ?_)
  refine qr_is2 rfl (w := ?_)
  exact mBestBound_loop h hB hl hR 9 2 1 (by omega) (by omega)
/-- a record that is there has a value for each leaf -/
def qRv (a : qAS) : Prop := ∀ i : Int, qAt (qRs a) i ≠ -9 → ((qGet a i).2.length : Int) = qLv (qFr' a i) ∧ ∀ j : Int, 0 ≤ j → j < qLv (qFr' a i) → 0 ≤ qVv a i j ∧ qVv a i j ≤ 999
theorem qRv_of {a : qAS} (h : qWA a) : qRv a := by
  intro i h9
  obtain ⟨h0, h1⟩ := qHas_lt h9
  obtain ⟨i, rfl⟩ : ∃ y : Nat, i = y := ⟨i.toNat, by omega⟩
  obtain ⟨g1, g2⟩ := qWA_val h (i := i) (by omega) h9
  refine ⟨?_, fun j hj0 hj1 => ?_⟩
  · rw [qGet_at (by omega)]
    exact g1
  · obtain ⟨j, rfl⟩ : ∃ y : Nat, j = y := ⟨j.toNat, by omega⟩
    exact g2 j hj1
theorem mSumOf_loop (h : qE r) {a : qAS} (hB : qMb (m 177) a) (hl : qMl a) (hR : qRk a) (hV : qRv a) {i : Int} (hi : qAt (qRs a) i ≠ -9) : ∀ (k j : Nat) (c : Int), (j : Int) + k = qLv (qFr' a i) → 0 ≤ c → c ≤ 999 * j → qP2 m_Mo_sumOf 4 [qK 176, qI i, qI c, qI j] (qT0, m, r) (qI (c + qSm k j (fun j => qVv a i j))) := by
  obtain ⟨⟨b0, b1, b2, b3⟩, bp, bs, br⟩ := id hB
  obtain ⟨l1, l2, l3, l4, l5⟩ := id hl
  have hrl := qRs_len a
  have hi2 := qHas_lt hi
  have hRi := hR i
  obtain ⟨v1, v2⟩ := hV i hi
  have h3 := l5 i
  intro k
  induction k with
  | zero =>
    intro j c hik hc0 hc1
    unfold qP2
    refine qr_il rfl rfl (w := ?_)
    refine qr_al rfl rfl (w := ?_)
    refine qr_al rfl rfl (w := ?_)
    refine qr_il rfl rfl (w := ?_)
    refine qr_callP rfl (mShapeOf (i := i) h hB hl (by omega)) (qrcv1 kd_176) (w := ?_)
    refine qr_callP rfl (mLeavesOf (s := qAt (qRs a) i) h hB hl (by omega)) (qrcv1 kd_176) (w := ?_)
    have hfe : qLv (qGf a.2.1 (qAt (qRs a) i)) = qLv (qFr' a i) := rfl
    refine qr_icge rfl (fun hc => ?_) (fun hc => ?_)
    · refine qr_il rfl rfl (w := ?_)
      refine qW_ireturn rfl ?_
      exact ⟨by simp [qSm], rfl⟩
    · exact absurd hc (by omega)
  | succ k ih =>
    intro j c hik hc0 hc1
    unfold qP2
    simp only [qSm]
    have v3 := v2 j (by omega) (by omega)
    refine qr_il rfl rfl (w := ?_)
    refine qr_al rfl rfl (w := ?_)
    refine qr_al rfl rfl (w := ?_)
    refine qr_il rfl rfl (w := ?_)
    refine qr_callP rfl (mShapeOf (i := i) h hB hl (by omega)) (qrcv1 kd_176) (w := ?_)
    refine qr_callP rfl (mLeavesOf (s := qAt (qRs a) i) h hB hl (by omega)) (qrcv1 kd_176) (w := ?_)
    have hfe : qLv (qGf a.2.1 (qAt (qRs a) i)) = qLv (qFr' a i) := rfl
    refine qr_icge rfl (fun hc => ?_) (fun hc => ?_)
    · exact absurd hc (by omega)
    · refine qr_il rfl rfl (w := ?_)
      refine qr_al rfl rfl (w := ?_)
      refine qr_il rfl rfl (w := ?_)
      refine qr_il rfl rfl (w := ?_)
      refine qr_callP rfl (mValueOf (i := i) (j := j) h hB hl hi2 (by omega)) (qrcv1 kd_176) (w := ?_)
      refine qr_add rfl (by omega) (w := ?_)
      refine qr_is2 rfl (w := ?_)
      refine qr_inc3 rfl (by omega) (w := ?_)
      refine qr_goto rfl (w := ?_)
      refine qW2 (ih (j + 1) _ (by omega) (by omega) (by omega)) (congrArg qI ?_)
      omega
theorem mSumOf (h : qE r) {a : qAS} (hB : qMb (m 177) a) (hl : qMl a) (hR : qRk a) (hV : qRv a) {i : Int} (hi : qAt (qRs a) i ≠ -9) : qP m_Mo_sumOf [qK 176, qI i, none, none] (qT0, m, r) (qI (qSm (qLv (qFr' a i)).toNat 0 (fun j => qVv a i j))) := by
  have hlv := qLv_le (qFr' a i)
  refine qr_const rfl (w := ?_)
  refine qr_is2 rfl (w := ?_)
  refine qr_const rfl (w := ?_)
  refine qr_is3 rfl (w := ?_)
  refine qW2 (mSumOf_loop h hB hl hR hV hi (qLv (qFr' a i)).toNat 0 0 (by omega) (by omega) (by omega)) (congrArg qI ?_)
  rw [Int.zero_add]
def qOver (a : qAS) (p x : Int) (i : Nat) : Int := if qAt (qRs a) i = -9 then 0 else if x = 5 then (if a.2.2.1 ≤ qCt (qRs a) (qAt (qRs a) i) then (if qLp (qFr' a i) p 0 = -9 then 0 else 1) else ((qFr' a i).length : Int)) else if x = 3 then (if (100 + p) ∈ (qFr' a i) then 1 else 0) else if qLp (qFr' a i) p 0 = -9 then 0 else if x = 2 then 1 else qVv a i (qLp (qFr' a i) p 0)
theorem mOver_loop (h : qE r) {a : qAS} (hB : qMb (m 177) a) (hl : qMl a) (hR : qRk a) (hV : qRv a) {p x : Int} (hp : 0 ≤ p ∧ p < 100) : ∀ (k i : Nat) (c : Int) (y1 y2 y3 : qA), i + k = a.2.2.2.length → 0 ≤ c → c ≤ 999 * i → qP2 m_Mo_overRecords 5 [qK 176, qI p, qI x, qI c, qI i, y1, y2, y3] (qT0, m, r) (qI (c + qSm k i (qOver a p x))) := by
  obtain ⟨⟨b0, b1, b2, b3⟩, bp, bs, br⟩ := id hB
  obtain ⟨l1, l2, l3, l4, l5⟩ := id hl
  have hrl := qRs_len a
  intro k
  induction k with
  | zero =>
    intro i c y1 y2 y3 hik hc0 hc1
    unfold qP2
    refine qr_il rfl rfl (w := ?_)
    refine qr_al rfl rfl (w := ?_)
    refine qr_gr rfl kd_176 (hr := (rf_8_0 h)) (w := ?_)
    refine qr_const rfl (w := ?_)
    refine qr_ia rfl kd_177 (by omega) (w := ?_)
    refine qr_icge rfl (fun hc => ?_) (fun hc => ?_)
    · refine qr_il rfl rfl (w := ?_)
      refine qW_ireturn rfl ?_
      exact ⟨by simp [qSm], rfl⟩
    · exact absurd hc (by omega)
  | succ k ih =>
    intro i c y1 y2 y3 hik hc0 hc1
    unfold qP2
    simp only [qSm]
    have hRi := hR i
    have hV1 := hV i
    have h3 := l3 (qAt (qRs a) i)
    have hpl := qLp_lt (qFr' a i) hp.2 0
    have hV2 := fun e => (hV1 e).2 (qLp (qFr' a i) p 0)
    have hfe : qGf a.2.1 (qAt (qRs a) i) = qFr' a i := rfl
    rw [hfe] at h3
    unfold qOver
    refine qr_il rfl rfl (w := ?_)
    refine qr_al rfl rfl (w := ?_)
    refine qr_gr rfl kd_176 (hr := (rf_8_0 h)) (w := ?_)
    refine qr_const rfl (w := ?_)
    refine qr_ia rfl kd_177 (by omega) (w := ?_)
    refine qr_icge rfl (fun hc => ?_) (fun hc => ?_)
    · exact absurd hc (by omega)
    · refine qr_al rfl rfl (w := ?_)
      refine qr_il rfl rfl (w := ?_)
      refine qr_callP rfl (mShapeOf (i := i) h hB hl (by omega)) (qrcv1 kd_176) (w := ?_)
      refine qr_is5 rfl (w := ?_)
      refine qr_il rfl rfl (w := ?_)
      refine qr_const rfl (w := ?_)
      refine qr_iceq rfl (fun hcf => ?_) (fun hcf => ?_)
      · refine qr_inc4 rfl (by omega) (w := ?_)
        refine qr_goto rfl (w := ?_)
        refine qW2 (ih (i + 1) _ _ _ _ (by omega) (by omega) (by omega)) (congrArg qI ?_)
        unfold qOver
        try simp only [decide_eq_true_eq, decide_eq_false_iff_not] at *
        simp only [*, if_true, if_false]
        omega
      · refine qr_al rfl rfl (w := ?_)
        refine qr_il rfl rfl (w := ?_)
        refine qr_il rfl rfl (w := ?_)
        refine qr_callP rfl (mLeafAt (s := qAt (qRs a) i) h hB hl (by omega)) (qrcv1 kd_176) (w := ?_)
        rw [hfe]
        refine qr_is6 rfl (w := ?_)
        refine qr_al rfl rfl (w := ?_)
        refine qr_il rfl rfl (w := ?_)
        refine qr_al rfl rfl (w := ?_)
        refine qr_gr rfl kd_176 (hr := (rf_8_0 h)) (w := ?_)
        refine qr_const rfl (w := ?_)
        refine qr_ia rfl kd_177 (by omega) (w := ?_)
        refine qr_callP rfl (mIsCommon h hB hl) (qrcv1 kd_176) (w := ?_)
        refine qr_ifeqB rfl (fun hcff => ?_) (fun hcff => ?_)
        · refine qr_al rfl rfl (w := ?_)
          refine qr_il rfl rfl (w := ?_)
          refine qr_callP rfl (mFieldsOf (s := qAt (qRs a) i) h hB hl (by omega)) (qrcv1 kd_176) (w := ?_)
          rw [hfe]
          refine qr_is7 rfl (w := ?_)
          refine qr_il rfl rfl (w := ?_)
          refine qr_il rfl rfl (w := ?_)
          refine qr_const rfl (w := ?_)
          refine qr_icne rfl (fun hcfft => ?_) (fun hcfft => ?_)
          · refine qr_il rfl rfl (w := ?_)
            refine qr_const rfl (w := ?_)
            refine qr_icne rfl (fun hcfftt => ?_) (fun hcfftt => ?_)
            · refine qr_il rfl rfl (w := ?_)
              refine qr_const rfl (w := ?_)
              refine qr_icne rfl (fun hcffttt => ?_) (fun hcffttt => ?_)
              · refine qr_il rfl rfl (w := ?_)
                refine qr_const rfl (w := ?_)
                refine qr_icne rfl (fun hcfftttt => ?_) (fun hcfftttt => ?_)
                · refine qr_al rfl rfl (w := ?_)
                  refine qr_il rfl rfl (w := ?_)
                  refine qr_il rfl rfl (w := ?_)
                  have hV3 := hV1 (by omega)
                  have hV4 := hV2 (by omega) (by omega) (by omega)
                  refine qr_callP rfl (mValueOf (i := i) (j := qLp (qFr' a i) p 0) h hB hl (by omega) (by omega)) (qrcv1 kd_176) (w := ?_)
                  refine qr_add rfl (by omega) (w := ?_)
                  refine qr_is3 rfl (w := ?_)
                  refine qr_inc4 rfl (by omega) (w := ?_)
                  refine qr_goto rfl (w := ?_)
                  refine qW2 (ih (i + 1) _ _ _ _ (by omega) (by omega) (by omega)) (congrArg qI ?_)
                  unfold qOver
                  try simp only [decide_eq_true_eq, decide_eq_false_iff_not] at *
                  simp only [*, if_true, if_false]
                  omega
                · refine qr_const rfl (w := ?_)
                  refine qr_goto rfl (w := ?_)
                  refine qr_add rfl (by omega) (w := ?_)
                  refine qr_is3 rfl (w := ?_)
                  refine qr_inc4 rfl (by omega) (w := ?_)
                  refine qr_goto rfl (w := ?_)
                  refine qW2 (ih (i + 1) _ _ _ _ (by omega) (by omega) (by omega)) (congrArg qI ?_)
                  unfold qOver
                  try simp only [decide_eq_true_eq, decide_eq_false_iff_not] at *
                  simp only [*, if_true, if_false]
                  omega
              · refine qr_const rfl (w := ?_)
                refine qr_goto rfl (w := ?_)
                refine qr_add rfl (by omega) (w := ?_)
                refine qr_is3 rfl (w := ?_)
                refine qr_inc4 rfl (by omega) (w := ?_)
                refine qr_goto rfl (w := ?_)
                refine qW2 (ih (i + 1) _ _ _ _ (by omega) (by omega) (by omega)) (congrArg qI ?_)
                unfold qOver
                try simp only [decide_eq_true_eq, decide_eq_false_iff_not] at *
                simp only [*, if_true, if_false]
                omega
            · refine qr_al rfl rfl (w := ?_)
              refine qr_il rfl rfl (w := ?_)
              refine qr_il rfl rfl (w := ?_)
              refine qr_callP rfl (mIsBranch (s := qAt (qRs a) i) h hB hl (by omega) hp) (qrcv1 kd_176) (w := ?_)
              rw [hfe]
              refine qr_ifeqB rfl (fun hcffttf => ?_) (fun hcffttf => ?_)
              · refine qr_const rfl (w := ?_)
                refine qr_goto rfl (w := ?_)
                refine qr_add rfl (by omega) (w := ?_)
                refine qr_is3 rfl (w := ?_)
                refine qr_inc4 rfl (by omega) (w := ?_)
                refine qr_goto rfl (w := ?_)
                refine qW2 (ih (i + 1) _ _ _ _ (by omega) (by omega) (by omega)) (congrArg qI ?_)
                unfold qOver
                try simp only [decide_eq_true_eq, decide_eq_false_iff_not] at *
                simp only [*, if_true, if_false]
                omega
              · refine qr_const rfl (w := ?_)
                refine qr_goto rfl (w := ?_)
                refine qr_add rfl (by omega) (w := ?_)
                refine qr_is3 rfl (w := ?_)
                refine qr_inc4 rfl (by omega) (w := ?_)
                refine qr_goto rfl (w := ?_)
                refine qW2 (ih (i + 1) _ _ _ _ (by omega) (by omega) (by omega)) (congrArg qI ?_)
                unfold qOver
                try simp only [decide_eq_true_eq, decide_eq_false_iff_not] at *
                simp only [*, if_true, if_false]
                omega
          · refine qr_il rfl rfl (w := ?_)
            refine qr_goto rfl (w := ?_)
            refine qr_add rfl (by omega) (w := ?_)
            refine qr_is3 rfl (w := ?_)
            refine qr_inc4 rfl (by omega) (w := ?_)
            refine qr_goto rfl (w := ?_)
            refine qW2 (ih (i + 1) _ _ _ _ (by omega) (by omega) (by omega)) (congrArg qI ?_)
            unfold qOver
            try simp only [decide_eq_true_eq, decide_eq_false_iff_not] at *
            simp only [*, if_true, if_false]
            omega
        · refine qr_il rfl rfl (w := ?_)
          refine qr_const rfl (w := ?_)
          refine qr_icne rfl (fun hcfff => ?_) (fun hcfff => ?_)
          · refine qr_const rfl (w := ?_)
            refine qr_goto rfl (w := ?_)
            refine qr_is7 rfl (w := ?_)
            refine qr_il rfl rfl (w := ?_)
            refine qr_il rfl rfl (w := ?_)
            refine qr_const rfl (w := ?_)
            refine qr_icne rfl (fun hcffft => ?_) (fun hcffft => ?_)
            · refine qr_il rfl rfl (w := ?_)
              refine qr_const rfl (w := ?_)
              refine qr_icne rfl (fun hcffftt => ?_) (fun hcffftt => ?_)
              · refine qr_il rfl rfl (w := ?_)
                refine qr_const rfl (w := ?_)
                refine qr_icne rfl (fun hcfffttt => ?_) (fun hcfffttt => ?_)
                · refine qr_il rfl rfl (w := ?_)
                  refine qr_const rfl (w := ?_)
                  refine qr_icne rfl (fun hcffftttt => ?_) (fun hcffftttt => ?_)
                  · refine qr_al rfl rfl (w := ?_)
                    refine qr_il rfl rfl (w := ?_)
                    refine qr_il rfl rfl (w := ?_)
                    have hV3 := hV1 (by omega)
                    have hV4 := hV2 (by omega) (by omega) (by omega)
                    refine qr_callP rfl (mValueOf (i := i) (j := qLp (qFr' a i) p 0) h hB hl (by omega) (by omega)) (qrcv1 kd_176) (w := ?_)
                    refine qr_add rfl (by omega) (w := ?_)
                    refine qr_is3 rfl (w := ?_)
                    refine qr_inc4 rfl (by omega) (w := ?_)
                    refine qr_goto rfl (w := ?_)
                    refine qW2 (ih (i + 1) _ _ _ _ (by omega) (by omega) (by omega)) (congrArg qI ?_)
                    unfold qOver
                    try simp only [decide_eq_true_eq, decide_eq_false_iff_not] at *
                    simp only [*, if_true, if_false]
                    omega
                  · refine qr_const rfl (w := ?_)
                    refine qr_goto rfl (w := ?_)
                    refine qr_add rfl (by omega) (w := ?_)
                    refine qr_is3 rfl (w := ?_)
                    refine qr_inc4 rfl (by omega) (w := ?_)
                    refine qr_goto rfl (w := ?_)
                    refine qW2 (ih (i + 1) _ _ _ _ (by omega) (by omega) (by omega)) (congrArg qI ?_)
                    unfold qOver
                    try simp only [decide_eq_true_eq, decide_eq_false_iff_not] at *
                    simp only [*, if_true, if_false]
                    omega
                · refine qr_const rfl (w := ?_)
                  refine qr_goto rfl (w := ?_)
                  refine qr_add rfl (by omega) (w := ?_)
                  refine qr_is3 rfl (w := ?_)
                  refine qr_inc4 rfl (by omega) (w := ?_)
                  refine qr_goto rfl (w := ?_)
                  refine qW2 (ih (i + 1) _ _ _ _ (by omega) (by omega) (by omega)) (congrArg qI ?_)
                  unfold qOver
                  try simp only [decide_eq_true_eq, decide_eq_false_iff_not] at *
                  simp only [*, if_true, if_false]
                  omega
              · refine qr_al rfl rfl (w := ?_)
                refine qr_il rfl rfl (w := ?_)
                refine qr_il rfl rfl (w := ?_)
                refine qr_callP rfl (mIsBranch (s := qAt (qRs a) i) h hB hl (by omega) hp) (qrcv1 kd_176) (w := ?_)
                rw [hfe]
                refine qr_ifeqB rfl (fun hcfffttf => ?_) (fun hcfffttf => ?_)
                · refine qr_const rfl (w := ?_)
                  refine qr_goto rfl (w := ?_)
                  refine qr_add rfl (by omega) (w := ?_)
                  refine qr_is3 rfl (w := ?_)
                  refine qr_inc4 rfl (by omega) (w := ?_)
                  refine qr_goto rfl (w := ?_)
                  refine qW2 (ih (i + 1) _ _ _ _ (by omega) (by omega) (by omega)) (congrArg qI ?_)
                  unfold qOver
                  try simp only [decide_eq_true_eq, decide_eq_false_iff_not] at *
                  simp only [*, if_true, if_false]
                  omega
                · refine qr_const rfl (w := ?_)
                  refine qr_goto rfl (w := ?_)
                  refine qr_add rfl (by omega) (w := ?_)
                  refine qr_is3 rfl (w := ?_)
                  refine qr_inc4 rfl (by omega) (w := ?_)
                  refine qr_goto rfl (w := ?_)
                  refine qW2 (ih (i + 1) _ _ _ _ (by omega) (by omega) (by omega)) (congrArg qI ?_)
                  unfold qOver
                  try simp only [decide_eq_true_eq, decide_eq_false_iff_not] at *
                  simp only [*, if_true, if_false]
                  omega
            · refine qr_il rfl rfl (w := ?_)
              refine qr_goto rfl (w := ?_)
              refine qr_add rfl (by omega) (w := ?_)
              refine qr_is3 rfl (w := ?_)
              refine qr_inc4 rfl (by omega) (w := ?_)
              refine qr_goto rfl (w := ?_)
              refine qW2 (ih (i + 1) _ _ _ _ (by omega) (by omega) (by omega)) (congrArg qI ?_)
              unfold qOver
              try simp only [decide_eq_true_eq, decide_eq_false_iff_not] at *
              simp only [*, if_true, if_false]
              omega
          · refine qr_const rfl (w := ?_)
            refine qr_goto rfl (w := ?_)
            refine qr_is7 rfl (w := ?_)
            refine qr_il rfl rfl (w := ?_)
            refine qr_il rfl rfl (w := ?_)
            refine qr_const rfl (w := ?_)
            refine qr_icne rfl (fun hcffff => ?_) (fun hcffff => ?_)
            · refine qr_il rfl rfl (w := ?_)
              refine qr_const rfl (w := ?_)
              refine qr_icne rfl (fun hcfffft => ?_) (fun hcfffft => ?_)
              · refine qr_il rfl rfl (w := ?_)
                refine qr_const rfl (w := ?_)
                refine qr_icne rfl (fun hcfffftt => ?_) (fun hcfffftt => ?_)
                · refine qr_il rfl rfl (w := ?_)
                  refine qr_const rfl (w := ?_)
                  refine qr_icne rfl (fun hcffffttt => ?_) (fun hcffffttt => ?_)
                  · refine qr_al rfl rfl (w := ?_)
                    refine qr_il rfl rfl (w := ?_)
                    refine qr_il rfl rfl (w := ?_)
                    have hV3 := hV1 (by omega)
                    have hV4 := hV2 (by omega) (by omega) (by omega)
                    refine qr_callP rfl (mValueOf (i := i) (j := qLp (qFr' a i) p 0) h hB hl (by omega) (by omega)) (qrcv1 kd_176) (w := ?_)
                    refine qr_add rfl (by omega) (w := ?_)
                    refine qr_is3 rfl (w := ?_)
                    refine qr_inc4 rfl (by omega) (w := ?_)
                    refine qr_goto rfl (w := ?_)
                    refine qW2 (ih (i + 1) _ _ _ _ (by omega) (by omega) (by omega)) (congrArg qI ?_)
                    unfold qOver
                    try simp only [decide_eq_true_eq, decide_eq_false_iff_not] at *
                    simp only [*, if_true, if_false]
                    omega
                  · refine qr_const rfl (w := ?_)
                    refine qr_goto rfl (w := ?_)
                    refine qr_add rfl (by omega) (w := ?_)
                    refine qr_is3 rfl (w := ?_)
                    refine qr_inc4 rfl (by omega) (w := ?_)
                    refine qr_goto rfl (w := ?_)
                    refine qW2 (ih (i + 1) _ _ _ _ (by omega) (by omega) (by omega)) (congrArg qI ?_)
                    unfold qOver
                    try simp only [decide_eq_true_eq, decide_eq_false_iff_not] at *
                    simp only [*, if_true, if_false]
                    omega
                · refine qr_const rfl (w := ?_)
                  refine qr_goto rfl (w := ?_)
                  refine qr_add rfl (by omega) (w := ?_)
                  refine qr_is3 rfl (w := ?_)
                  refine qr_inc4 rfl (by omega) (w := ?_)
                  refine qr_goto rfl (w := ?_)
                  refine qW2 (ih (i + 1) _ _ _ _ (by omega) (by omega) (by omega)) (congrArg qI ?_)
                  unfold qOver
                  try simp only [decide_eq_true_eq, decide_eq_false_iff_not] at *
                  simp only [*, if_true, if_false]
                  omega
              · refine qr_al rfl rfl (w := ?_)
                refine qr_il rfl rfl (w := ?_)
                refine qr_il rfl rfl (w := ?_)
                refine qr_callP rfl (mIsBranch (s := qAt (qRs a) i) h hB hl (by omega) hp) (qrcv1 kd_176) (w := ?_)
                rw [hfe]
                refine qr_ifeqB rfl (fun hcfffftf => ?_) (fun hcfffftf => ?_)
                · refine qr_const rfl (w := ?_)
                  refine qr_goto rfl (w := ?_)
                  refine qr_add rfl (by omega) (w := ?_)
                  refine qr_is3 rfl (w := ?_)
                  refine qr_inc4 rfl (by omega) (w := ?_)
                  refine qr_goto rfl (w := ?_)
                  refine qW2 (ih (i + 1) _ _ _ _ (by omega) (by omega) (by omega)) (congrArg qI ?_)
                  unfold qOver
                  try simp only [decide_eq_true_eq, decide_eq_false_iff_not] at *
                  simp only [*, if_true, if_false]
                  omega
                · refine qr_const rfl (w := ?_)
                  refine qr_goto rfl (w := ?_)
                  refine qr_add rfl (by omega) (w := ?_)
                  refine qr_is3 rfl (w := ?_)
                  refine qr_inc4 rfl (by omega) (w := ?_)
                  refine qr_goto rfl (w := ?_)
                  refine qW2 (ih (i + 1) _ _ _ _ (by omega) (by omega) (by omega)) (congrArg qI ?_)
                  unfold qOver
                  try simp only [decide_eq_true_eq, decide_eq_false_iff_not] at *
                  simp only [*, if_true, if_false]
                  omega
            · refine qr_il rfl rfl (w := ?_)
              refine qr_goto rfl (w := ?_)
              refine qr_add rfl (by omega) (w := ?_)
              refine qr_is3 rfl (w := ?_)
              refine qr_inc4 rfl (by omega) (w := ?_)
              refine qr_goto rfl (w := ?_)
              refine qW2 (ih (i + 1) _ _ _ _ (by omega) (by omega) (by omega)) (congrArg qI ?_)
              unfold qOver
              try simp only [decide_eq_true_eq, decide_eq_false_iff_not] at *
              simp only [*, if_true, if_false]
              omega
theorem mOver (h : qE r) {a : qAS} (hB : qMb (m 177) a) (hl : qMl a) (hR : qRk a) (hV : qRv a) {p x : Int} (hp : 0 ≤ p ∧ p < 100) : qP m_Mo_overRecords [qK 176, qI p, qI x, none, none, none, none, none] (qT0, m, r) (qI (qSm a.2.2.2.length 0 (qOver a p x))) := by
  refine qr_const rfl (w := ?_)
  refine qr_is3 rfl (w := ?_)
  refine qr_const rfl (w := ?_)
  refine qr_is4 rfl (w := ?_)
  refine qW2 (mOver_loop h hB hl hR hV hp a.2.2.2.length 0 0 none none none (by omega) (by omega) (by omega)) (congrArg qI ?_)
  rw [Int.zero_add]
