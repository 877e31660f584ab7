/-! The reference's sums -/
variable {m : Nat → Int → Int} {r : Nat → Int → Option Nat}
theorem mLeafAt_loop (h : qE r) {a : qAS} (hB : qMb (m 177) a) (hl : qMl a) {s : Int} (hs : 0 ≤ s ∧ s < a.2.1.length) {p : Int} : ∀ (k i : Nat) (c : Int), i + k = (qGf a.2.1 s).length → 0 ≤ c → c ≤ i → qP2 m_Mo_leafAt 5 [qK 176, qI s, qI p, qI c, qI i] (qT0, m, r) (qI (qLp ((qGf a.2.1 s).drop i) p c)) := by
  obtain ⟨⟨b0, b1, b2, b3⟩, bp, bs, br⟩ := id hB
  obtain ⟨l1, l2, l3, l4, l5⟩ := id hl
  have hrl := qRs_len a
  have h3 := l3 s
  intro k
  induction k with
  | zero =>
    intro i c hik hc0 hc1
    rw [qdrop_nil (by omega)]
    unfold qP2
    refine qr_il rfl rfl (w := ?_)
    refine qr_al rfl rfl (w := ?_)
    refine qr_il rfl rfl (w := ?_)
    refine qr_callP rfl (mFieldsOf (s := s) h hB hl (by omega)) (qrcv1 kd_176) (w := ?_)
    refine qr_icge rfl (fun hc => ?_) (fun hc => ?_)
    · refine qr_const rfl (w := ?_)
      refine qW_ireturn rfl ?_
      exact ⟨rfl, rfl⟩
    · exact absurd hc (by omega)
  | succ k ih =>
    intro i c hik hc0 hc1
    rw [qdrop (by omega)]
    have e := qAt_lt (l := qGf a.2.1 s) (i := i) (by omega)
    rw [← e]
    unfold qP2
    refine qr_il rfl rfl (w := ?_)
    refine qr_al rfl rfl (w := ?_)
    refine qr_il rfl rfl (w := ?_)
    refine qr_callP rfl (mFieldsOf (s := s) h hB hl (by omega)) (qrcv1 kd_176) (w := ?_)
    refine qr_icge rfl (fun hc => ?_) (fun hc => ?_)
    · exact absurd hc (by omega)
    · refine qr_al rfl rfl (w := ?_)
      refine qr_il rfl rfl (w := ?_)
      refine qr_il rfl rfl (w := ?_)
      refine qr_callP rfl (mFieldOf (s := s) (k := i) h hB hl (by omega) (by omega)) (qrcv1 kd_176) (w := ?_)
      refine qr_il rfl rfl (w := ?_)
      refine qr_icne rfl (fun hcf => ?_) (fun hcf => ?_)
      · refine qr_il rfl rfl (w := ?_)
        refine qr_al rfl rfl (w := ?_)
        refine qr_il rfl rfl (w := ?_)
        refine qr_il rfl rfl (w := ?_)
        refine qr_callP rfl (mFieldOf (s := s) (k := i) h hB hl (by omega) (by omega)) (qrcv1 kd_176) (w := ?_)
        refine qr_const rfl (w := ?_)
        refine qr_icge rfl (fun hcft => ?_) (fun hcft => ?_)
        · refine qr_const rfl (w := ?_)
          refine qr_add rfl (by omega) (w := ?_)
          refine qr_is3 rfl (w := ?_)
          refine qr_inc4 rfl (by omega) (w := ?_)
          refine qr_goto rfl (w := ?_)
          refine qW2 (ih (i + 1) _ (by omega) (by omega) (by omega)) (congrArg qI ?_)
          simp only [qLp]
          rw [if_neg (by omega)]
          first | (rw [if_pos (by omega)]; done) | (rw [if_neg (by omega)]; done)
        · refine qr_const rfl (w := ?_)
          refine qr_goto rfl (w := ?_)
          refine qr_add rfl (by omega) (w := ?_)
          refine qr_is3 rfl (w := ?_)
          refine qr_inc4 rfl (by omega) (w := ?_)
          refine qr_goto rfl (w := ?_)
          refine qW2 (ih (i + 1) _ (by omega) (by omega) (by omega)) (congrArg qI ?_)
          simp only [qLp]
          rw [if_neg (by omega)]
          first | (rw [if_pos (by omega)]; done) | (rw [if_neg (by omega)]; done)
      · refine qr_il rfl rfl (w := ?_)
        refine qW_ireturn rfl ?_
        refine ⟨congrArg qI ?_, rfl⟩
        simp only [qLp]
        rw [if_pos (by omega)]
theorem mLeafAt (h : qE r) {a : qAS} (hB : qMb (m 177) a) (hl : qMl a) {s : Int} (hs : 0 ≤ s ∧ s < a.2.1.length) {p : Int} : qP m_Mo_leafAt [qK 176, qI s, qI p, none, none] (qT0, m, r) (qI (qLp (qGf a.2.1 s) p 0)) := by
  obtain ⟨⟨b0, b1, b2, b3⟩, bp, bs, br⟩ := id hB
  obtain ⟨l1, l2, l3, l4, l5⟩ := id hl
  have hrl := qRs_len a
  have h3 := l3 s
  refine qr_const rfl (w := ?_)
  refine qr_is3 rfl (w := ?_)
  refine qr_const rfl (w := ?_)
  refine qr_is4 rfl (w := ?_)
  exact mLeafAt_loop h hB hl hs (qGf a.2.1 s).length 0 0 (by omega) (by omega) (by omega)
theorem mIsBranch_loop (h : qE r) {a : qAS} (hB : qMb (m 177) a) (hl : qMl a) {s : Int} (hs : 0 ≤ s ∧ s < a.2.1.length) {p : Int} (hp : 0 ≤ p ∧ p < 100) : ∀ (k i : Nat) (c : Int), i + k = (qGf a.2.1 s).length → (c = 0 ∨ c = 1) → qP2 m_Mo_isBranch 5 [qK 176, qI s, qI p, qI c, qI i] (qT0, m, r) (qI (if c = 1 ∨ (100 + p) ∈ (qGf a.2.1 s).drop i then 1 else 0)) := by
  obtain ⟨⟨b0, b1, b2, b3⟩, bp, bs, br⟩ := id hB
  obtain ⟨l1, l2, l3, l4, l5⟩ := id hl
  have hrl := qRs_len a
  have h3 := l3 s
  intro k
  induction k with
  | zero =>
    intro i c hik hc0
    rw [qdrop_nil (by omega)]
    unfold qP2
    refine qr_il rfl rfl (w := ?_)
    refine qr_al rfl rfl (w := ?_)
    refine qr_il rfl rfl (w := ?_)
    refine qr_callP rfl (mFieldsOf (s := s) h hB hl (by omega)) (qrcv1 kd_176) (w := ?_)
    refine qr_icge rfl (fun hc => ?_) (fun hc => ?_)
    · refine qr_il rfl rfl (w := ?_)
      refine qW_zreturn rfl hc0 ⟨congrArg qI ?_, rfl⟩
      rcases hc0 with e | e
      · subst e
        simp
      · subst e
        simp
    · exact absurd hc (by omega)
  | succ k ih =>
    intro i c hik hc0
    rw [qdrop (by omega)]
    have e := qAt_lt (l := qGf a.2.1 s) (i := i) (by omega)
    rw [← e]
    unfold qP2
    refine qr_il rfl rfl (w := ?_)
    refine qr_al rfl rfl (w := ?_)
    refine qr_il rfl rfl (w := ?_)
    refine qr_callP rfl (mFieldsOf (s := s) h hB hl (by omega)) (qrcv1 kd_176) (w := ?_)
    refine qr_icge rfl (fun hc => ?_) (fun hc => ?_)
    · exact absurd hc (by omega)
    · refine qr_il rfl rfl (w := ?_)
      refine qr_ifne rfl (fun hcf => ?_) (fun hcf => ?_)
      · refine qr_const rfl (w := ?_)
        refine qr_goto rfl (w := ?_)
        refine qr_is3 rfl (w := ?_)
        refine qr_inc4 rfl (by omega) (w := ?_)
        refine qr_goto rfl (w := ?_)
        refine qW2 (ih (i + 1) _ (by omega) (by omega)) (congrArg qI ?_)
        have hmc : ((100 + p) ∈ (qAt (qGf a.2.1 s) i :: List.drop (i + 1) (qGf a.2.1 s))) ↔ ((100 + p) = qAt (qGf a.2.1 s) i ∨ (100 + p) ∈ List.drop (i + 1) (qGf a.2.1 s)) := List.mem_cons
        by_cases hm : (100 + p) ∈ List.drop (i + 1) (qGf a.2.1 s)
        · rw [if_pos (Or.inr hm), if_pos (Or.inr (hmc.mpr (Or.inr hm)))]
        · have hq : (c = 1 ∨ (100 + p) = qAt (qGf a.2.1 s) i) ∨ ¬ (c = 1 ∨ (100 + p) = qAt (qGf a.2.1 s) i) := Classical.em _
          rcases hq with hq | hq
          · rw [if_pos (Or.inl (by omega)), if_pos (hq.elim Or.inl (fun e => Or.inr (hmc.mpr (Or.inl e))))]
          · rw [if_neg (fun e9 => e9.elim (by omega) hm), if_neg (fun e9 => e9.elim (by omega) (fun e8 => (hmc.mp e8).elim (by omega) hm))]
      · refine qr_al rfl rfl (w := ?_)
        refine qr_il rfl rfl (w := ?_)
        refine qr_il rfl rfl (w := ?_)
        refine qr_callP rfl (mFieldOf (s := s) (k := i) h hB hl (by omega) (by omega)) (qrcv1 kd_176) (w := ?_)
        refine qr_const rfl (w := ?_)
        refine qr_il rfl rfl (w := ?_)
        refine qr_add rfl (by omega) (w := ?_)
        refine qr_icne rfl (fun hcff => ?_) (fun hcff => ?_)
        · refine qr_const rfl (w := ?_)
          refine qr_is3 rfl (w := ?_)
          refine qr_inc4 rfl (by omega) (w := ?_)
          refine qr_goto rfl (w := ?_)
          refine qW2 (ih (i + 1) _ (by omega) (by omega)) (congrArg qI ?_)
          have hmc : ((100 + p) ∈ (qAt (qGf a.2.1 s) i :: List.drop (i + 1) (qGf a.2.1 s))) ↔ ((100 + p) = qAt (qGf a.2.1 s) i ∨ (100 + p) ∈ List.drop (i + 1) (qGf a.2.1 s)) := List.mem_cons
          by_cases hm : (100 + p) ∈ List.drop (i + 1) (qGf a.2.1 s)
          · rw [if_pos (Or.inr hm), if_pos (Or.inr (hmc.mpr (Or.inr hm)))]
          · have hq : (c = 1 ∨ (100 + p) = qAt (qGf a.2.1 s) i) ∨ ¬ (c = 1 ∨ (100 + p) = qAt (qGf a.2.1 s) i) := Classical.em _
            rcases hq with hq | hq
            · rw [if_pos (Or.inl (by omega)), if_pos (hq.elim Or.inl (fun e => Or.inr (hmc.mpr (Or.inl e))))]
            · rw [if_neg (fun e9 => e9.elim (by omega) hm), if_neg (fun e9 => e9.elim (by omega) (fun e8 => (hmc.mp e8).elim (by omega) hm))]
        · refine qr_const rfl (w := ?_)
          refine qr_goto rfl (w := ?_)
          refine qr_is3 rfl (w := ?_)
          refine qr_inc4 rfl (by omega) (w := ?_)
          refine qr_goto rfl (w := ?_)
          refine qW2 (ih (i + 1) _ (by omega) (by omega)) (congrArg qI ?_)
          have hmc : ((100 + p) ∈ (qAt (qGf a.2.1 s) i :: List.drop (i + 1) (qGf a.2.1 s))) ↔ ((100 + p) = qAt (qGf a.2.1 s) i ∨ (100 + p) ∈ List.drop (i + 1) (qGf a.2.1 s)) := List.mem_cons
          by_cases hm : (100 + p) ∈ List.drop (i + 1) (qGf a.2.1 s)
          · rw [if_pos (Or.inr hm), if_pos (Or.inr (hmc.mpr (Or.inr hm)))]
          · have hq : (c = 1 ∨ (100 + p) = qAt (qGf a.2.1 s) i) ∨ ¬ (c = 1 ∨ (100 + p) = qAt (qGf a.2.1 s) i) := Classical.em _
            rcases hq with hq | hq
            · rw [if_pos (Or.inl (by omega)), if_pos (hq.elim Or.inl (fun e => Or.inr (hmc.mpr (Or.inl e))))]
            · rw [if_neg (fun e9 => e9.elim (by omega) hm), if_neg (fun e9 => e9.elim (by omega) (fun e8 => (hmc.mp e8).elim (by omega) hm))]
theorem mIsBranch (h : qE r) {a : qAS} (hB : qMb (m 177) a) (hl : qMl a) {s : Int} (hs : 0 ≤ s ∧ s < a.2.1.length) {p : Int} (hp : 0 ≤ p ∧ p < 100) : qP m_Mo_isBranch [qK 176, qI s, qI p, none, none] (qT0, m, r) (qI (qbi (decide ((100 + p) ∈ qGf a.2.1 s)))) := by
  obtain ⟨⟨b0, b1, b2, b3⟩, bp, bs, br⟩ := id hB
  obtain ⟨l1, l2, l3, l4, l5⟩ := id hl
  have hrl := qRs_len a
  have h3 := l3 s
  refine qr_const rfl (w := ?_)
  refine qr_is3 rfl (w := ?_)
  refine qr_const rfl (w := ?_)
  refine qr_is4 rfl (w := ?_)
  refine qW2 (mIsBranch_loop h hB hl hs hp (qGf a.2.1 s).length 0 0 (by omega) (Or.inl rfl)) (congrArg qI ?_)
  rw [List.drop_zero]
  by_cases hm : (100 + p) ∈ qGf a.2.1 s
  · rw [if_pos (Or.inr hm), decide_eq_true hm]
    rfl
  · rw [if_neg (fun e => e.elim (by omega) hm), decide_eq_false hm]
    rfl
/-- records' shapes are none or there -/
def qRk (a : qAS) : Prop := ∀ i : Int, qAt (qRs a) i = -9 ∨ (0 ≤ qAt (qRs a) i ∧ qAt (qRs a) i < a.2.1.length)
theorem qRk_of {a : qAS} (h : qWA a) : qRk a := qWA_rs h
theorem qRk_mem {a : qAS} (h : qRk a) : ∀ x ∈ qRs a, x = -9 ∨ (0 ≤ x ∧ x < a.2.1.length) := by
  intro x hx
  obtain ⟨i, hi, rfl⟩ := List.getElem_of_mem hx
  have := h i
  rw [qAt_lt hi] at this
  exact this
theorem mRareMany_loop (h : qE r) {a : qAS} (hB : qMb (m 177) a) (hl : qMl a) : ∀ (k i : Nat) (c : Int), i + k = a.2.2.2.length → 0 ≤ c → c ≤ i → qP2 m_Mo_rareMany 4 [qK 176, qI c, qI i] (qT0, m, r) (qI (c + qSm k i (fun i => if qAt (qRs a) i = -9 then 0 else if a.2.2.1 ≤ qCt (qRs a) (qAt (qRs a) i) then 0 else 1))) := by
  obtain ⟨⟨b0, b1, b2, b3⟩, bp, bs, br⟩ := id hB
  obtain ⟨l1, l2, l3, l4, l5⟩ := id hl
  have hrl := qRs_len a
  intro k
  induction k with
  | zero =>
    intro i c hik hc0 hc1
    unfold qP2
    refine qr_il rfl rfl (w := ?_)
    refine qr_al rfl rfl (w := ?_)
    refine qr_gr rfl kd_176 (hr := (rf_8_0 h)) (w := ?_)
    refine qr_const rfl (w := ?_)
    refine qr_ia rfl kd_177 (by omega) (w := ?_)
    refine qr_icge rfl (fun hc => ?_) (fun hc => ?_)
    · refine qr_il rfl rfl (w := ?_)
      refine qW_ireturn rfl ?_
      exact ⟨by simp [qSm], rfl⟩
    · exact absurd hc (by omega)
  | succ k ih =>
    intro i c hik hc0 hc1
    unfold qP2
    simp only [qSm]
    refine qr_il rfl rfl (w := ?_)
    refine qr_al rfl rfl (w := ?_)
    refine qr_gr rfl kd_176 (hr := (rf_8_0 h)) (w := ?_)
    refine qr_const rfl (w := ?_)
    refine qr_ia rfl kd_177 (by omega) (w := ?_)
    refine qr_icge rfl (fun hc => ?_) (fun hc => ?_)
    · exact absurd hc (by omega)
    · refine qr_il rfl rfl (w := ?_)
      refine qr_al rfl rfl (w := ?_)
      refine qr_il rfl rfl (w := ?_)
      refine qr_callP rfl (mShapeOf (i := i) h hB hl (by omega)) (qrcv1 kd_176) (w := ?_)
      refine qr_const rfl (w := ?_)
      refine qr_iceq rfl (fun hcf => ?_) (fun hcf => ?_)
      · refine qr_const rfl (w := ?_)
        refine qr_add rfl (by omega) (w := ?_)
        refine qr_is1 rfl (w := ?_)
        refine qr_inc2 rfl (by omega) (w := ?_)
        refine qr_goto rfl (w := ?_)
        refine qW2 (ih (i + 1) _ (by omega) (by omega) (by omega)) (congrArg qI ?_)
        try simp only [decide_eq_true_eq, decide_eq_false_iff_not] at *
        rw [b3] at *
        first
          | (rw [if_pos (by assumption)]; omega)
          | (rw [if_neg (by assumption), if_pos (by assumption)]; omega)
          | (rw [if_neg (by assumption), if_neg (by assumption)]; omega)
      · refine qr_al rfl rfl (w := ?_)
        refine qr_al rfl rfl (w := ?_)
        refine qr_il rfl rfl (w := ?_)
        refine qr_callP rfl (mShapeOf (i := i) h hB hl (by omega)) (qrcv1 kd_176) (w := ?_)
        refine qr_al rfl rfl (w := ?_)
        refine qr_gr rfl kd_176 (hr := (rf_8_0 h)) (w := ?_)
        refine qr_const rfl (w := ?_)
        refine qr_ia rfl kd_177 (by omega) (w := ?_)
        refine qr_callP rfl (mIsCommon h hB hl) (qrcv1 kd_176) (w := ?_)
        refine qr_ifneB rfl (fun hcff => ?_) (fun hcff => ?_)
        · refine qr_const rfl (w := ?_)
          refine qr_add rfl (by omega) (w := ?_)
          refine qr_is1 rfl (w := ?_)
          refine qr_inc2 rfl (by omega) (w := ?_)
          refine qr_goto rfl (w := ?_)
          refine qW2 (ih (i + 1) _ (by omega) (by omega) (by omega)) (congrArg qI ?_)
          try simp only [decide_eq_true_eq, decide_eq_false_iff_not] at *
          rw [b3] at *
          first
            | (rw [if_pos (by assumption)]; omega)
            | (rw [if_neg (by assumption), if_pos (by assumption)]; omega)
            | (rw [if_neg (by assumption), if_neg (by assumption)]; omega)
        · refine qr_const rfl (w := ?_)
          refine qr_goto rfl (w := ?_)
          refine qr_add rfl (by omega) (w := ?_)
          refine qr_is1 rfl (w := ?_)
          refine qr_inc2 rfl (by omega) (w := ?_)
          refine qr_goto rfl (w := ?_)
          refine qW2 (ih (i + 1) _ (by omega) (by omega) (by omega)) (congrArg qI ?_)
          try simp only [decide_eq_true_eq, decide_eq_false_iff_not] at *
          rw [b3] at *
          first
            | (rw [if_pos (by assumption)]; omega)
            | (rw [if_neg (by assumption), if_pos (by assumption)]; omega)
            | (rw [if_neg (by assumption), if_neg (by assumption)]; omega)
theorem mRareMany (h : qE r) {a : qAS} (hB : qMb (m 177) a) (hl : qMl a) (hR : qRk a) : qP m_Mo_rareMany [qK 176, none, none] (qT0, m, r) (qI (qRar (qRs a) a.2.1.length a.2.2.1)) := by
  obtain ⟨⟨b0, b1, b2, b3⟩, bp, bs, br⟩ := id hB
  obtain ⟨l1, l2, l3, l4, l5⟩ := id hl
  have hrl := qRs_len a
  refine qr_const rfl (w := ?_)
  refine qr_is1 rfl (w := ?_)
  refine qr_const rfl (w := ?_)
  refine qr_is2 rfl (w := ?_)
  refine qW2 (mRareMany_loop h hB hl a.2.2.2.length 0 0 (by omega) (by omega) (by omega)) (congrArg qI ?_)
  rw [Int.zero_add, ← hrl]
  refine (qRm_sm (fun x => if a.2.2.1 ≤ qCt (qRs a) x then 0 else 1) (qRs a)).trans ?_
  rw [qRm_ex _ a.2.1.length (qRs a) (qRk_mem hR)]
  refine qSm_congr _ _ (fun j _ _ => ?_)
  split
  · rw [Int.mul_zero]
  · rw [Int.mul_one]
