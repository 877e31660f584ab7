/-! LikeRecords: what is there, sums over records and shapes -/
variable {m : Nat → Int → Int} {r : Nat → Int → Option Nat}
def qSm : Nat → Nat → (Nat → Int) → Int
  | 0, _, _ => 0
  | k + 1, i, g => g i + qSm k (i + 1) g
theorem qmulb {a b X Y : Int} (h1 : 0 ≤ a) (h2 : a ≤ X) (h3 : 0 ≤ b) (h4 : b ≤ Y) : 0 ≤ a * b ∧ a * b ≤ X * Y :=
  ⟨Int.mul_nonneg h1 h3, Int.mul_le_mul h2 h4 h3 (by omega)⟩
theorem qGf_len {ss : List (List Int)} (h : qSh m ss) (s : Int) : (qGf ss s).length ≤ 26 := by
  unfold qGf
  split
  · rename_i hs
    rw [List.getD_eq_getElem?_getD, List.getElem?_eq_getElem (by omega)]
    exact (h.2.1 _ (by omega)).2.2
  · simp
theorem sLR_isPath (h : qE r) {rs vs : List Int} {pk bd : Int} {ss : List (List Int)} (hn : qSc m 144 rs vs pk ss.length bd) (hS : qSh m ss) {p : Int} : qP m_LR_isPath [qK 0, qI p] (qT0, m, r) (qI (qbi (decide (0 ≤ p ∧ p < pk)))) := by
  have e2 := hn.2.2.1
  have e3 := hn.2.2.2.1
  have e4 := hn.2.2.2.2.1
  have h30 := hn.2.2.2.2.2.1
  have h40 := hS.1
  refine qr_il rfl rfl (w := ?_)
  refine qr_iflt rfl (fun hc => ?_) (fun hc => ?_)
  · refine qr_const rfl (w := ?_)
    refine qW_zreturn rfl (by first | exact Or.inl rfl | exact Or.inr rfl | (simp only [qbi]; split <;> simp)) ?_
    try rw [e2] at hcf
    refine ⟨congrArg qI ?_, rfl⟩
    simp only [qbi]
    first | (rw [if_pos (decide_eq_true (by omega))]; done) | (rw [if_neg (fun h9 => by have := of_decide_eq_true h9; omega)]; done)
  · refine qr_il rfl rfl (w := ?_)
    refine qr_al rfl rfl (w := ?_)
    refine qr_gr rfl kd_0 (hr := (rf_7_6 h)) (w := ?_)
    refine qr_gi rfl kd_144 (w := ?_)
    refine qr_icge rfl (fun hcf => ?_) (fun hcf => ?_)
    · refine qr_const rfl (w := ?_)
      refine qW_zreturn rfl (by first | exact Or.inl rfl | exact Or.inr rfl | (simp only [qbi]; split <;> simp)) ?_
      try rw [e2] at hcf
      refine ⟨congrArg qI ?_, rfl⟩
      simp only [qbi]
      first | (rw [if_pos (decide_eq_true (by omega))]; done) | (rw [if_neg (fun h9 => by have := of_decide_eq_true h9; omega)]; done)
    · refine qr_const rfl (w := ?_)
      refine qr_goto rfl (w := ?_)
      refine qW_zreturn rfl (by first | exact Or.inl rfl | exact Or.inr rfl | (simp only [qbi]; split <;> simp)) ?_
      try rw [e2] at hcf
      refine ⟨congrArg qI ?_, rfl⟩
      simp only [qbi]
      first | (rw [if_pos (decide_eq_true (by omega))]; done) | (rw [if_neg (fun h9 => by have := of_decide_eq_true h9; omega)]; done)
theorem sLR_isShape (h : qE r) {rs vs : List Int} {pk bd : Int} {ss : List (List Int)} (hn : qSc m 144 rs vs pk ss.length bd) (hS : qSh m ss) {p : Int} : qP m_LR_isShape [qK 0, qI p] (qT0, m, r) (qI (qbi (decide (0 ≤ p ∧ p < ss.length)))) := by
  have e2 := hn.2.2.1
  have e3 := hn.2.2.2.1
  have e4 := hn.2.2.2.2.1
  have h30 := hn.2.2.2.2.2.1
  have h40 := hS.1
  refine qr_il rfl rfl (w := ?_)
  refine qr_iflt rfl (fun hc => ?_) (fun hc => ?_)
  · refine qr_const rfl (w := ?_)
    refine qW_zreturn rfl (by first | exact Or.inl rfl | exact Or.inr rfl | (simp only [qbi]; split <;> simp)) ?_
    try rw [e3] at hcf
    refine ⟨congrArg qI ?_, rfl⟩
    simp only [qbi]
    first | (rw [if_pos (decide_eq_true (by omega))]; done) | (rw [if_neg (fun h9 => by have := of_decide_eq_true h9; omega)]; done)
  · refine qr_il rfl rfl (w := ?_)
    refine qr_al rfl rfl (w := ?_)
    refine qr_gr rfl kd_0 (hr := (rf_7_6 h)) (w := ?_)
    refine qr_gi rfl kd_144 (w := ?_)
    refine qr_icge rfl (fun hcf => ?_) (fun hcf => ?_)
    · refine qr_const rfl (w := ?_)
      refine qW_zreturn rfl (by first | exact Or.inl rfl | exact Or.inr rfl | (simp only [qbi]; split <;> simp)) ?_
      try rw [e3] at hcf
      refine ⟨congrArg qI ?_, rfl⟩
      simp only [qbi]
      first | (rw [if_pos (decide_eq_true (by omega))]; done) | (rw [if_neg (fun h9 => by have := of_decide_eq_true h9; omega)]; done)
    · refine qr_const rfl (w := ?_)
      refine qr_goto rfl (w := ?_)
      refine qW_zreturn rfl (by first | exact Or.inl rfl | exact Or.inr rfl | (simp only [qbi]; split <;> simp)) ?_
      try rw [e3] at hcf
      refine ⟨congrArg qI ?_, rfl⟩
      simp only [qbi]
      first | (rw [if_pos (decide_eq_true (by omega))]; done) | (rw [if_neg (fun h9 => by have := of_decide_eq_true h9; omega)]; done)
theorem sLR_isBound {p : Int} : qP m_LR_isBound [qK 0, qI p] (qT0, m, r) (qI (qbi (decide (1 ≤ p ∧ p ≤ 10)))) := by
  refine qr_il rfl rfl (w := ?_)
  refine qr_const rfl (w := ?_)
  refine qr_iclt rfl (fun hc => ?_) (fun hc => ?_)
  · refine qr_const rfl (w := ?_)
    refine qW_zreturn rfl (by first | exact Or.inl rfl | exact Or.inr rfl | (simp only [qbi]; split <;> simp)) ?_
    refine ⟨congrArg qI ?_, rfl⟩
    simp only [qbi]
    first | (rw [if_pos (decide_eq_true (by omega))]; done) | (rw [if_neg (fun h9 => by have := of_decide_eq_true h9; omega)]; done)
  · refine qr_il rfl rfl (w := ?_)
    refine qr_const rfl (w := ?_)
    refine qr_icgt rfl (fun hcf => ?_) (fun hcf => ?_)
    · refine qr_const rfl (w := ?_)
      refine qW_zreturn rfl (by first | exact Or.inl rfl | exact Or.inr rfl | (simp only [qbi]; split <;> simp)) ?_
      refine ⟨congrArg qI ?_, rfl⟩
      simp only [qbi]
      first | (rw [if_pos (decide_eq_true (by omega))]; done) | (rw [if_neg (fun h9 => by have := of_decide_eq_true h9; omega)]; done)
    · refine qr_const rfl (w := ?_)
      refine qr_goto rfl (w := ?_)
      refine qW_zreturn rfl (by first | exact Or.inl rfl | exact Or.inr rfl | (simp only [qbi]; split <;> simp)) ?_
      refine ⟨congrArg qI ?_, rfl⟩
      simp only [qbi]
      first | (rw [if_pos (decide_eq_true (by omega))]; done) | (rw [if_neg (fun h9 => by have := of_decide_eq_true h9; omega)]; done)
theorem sLR_isCommon (h : qE r) {rs vs : List Int} {pk bd : Int} {ss : List (List Int)} (hn : qSc m 144 rs vs pk ss.length bd) (hS : qSh m ss) {s : Int} : qP m_LR_isCommon [qK 0, qI s] (qT0, m, r) (qI (qbi (decide (bd ≤ qCt rs s)))) := by
  have e2 := hn.2.2.1
  have e3 := hn.2.2.2.1
  have e4 := hn.2.2.2.2.1
  have h30 := hn.2.2.2.2.2.1
  have h40 := hS.1
  refine qr_al rfl rfl (w := ?_)
  refine qr_gr rfl kd_0 (hr := (rf_7_6 h)) (w := ?_)
  refine qr_il rfl rfl (w := ?_)
  refine qr_callP rfl (sState_recordsWith (kState h) hn) (qrcv1 kd_144) (w := ?_)
  refine qr_al rfl rfl (w := ?_)
  refine qr_gr rfl kd_0 (hr := (rf_7_6 h)) (w := ?_)
  refine qr_gi rfl kd_144 (w := ?_)
  refine qr_iclt rfl (fun hc => ?_) (fun hc => ?_)
  · refine qr_const rfl (w := ?_)
    refine qW_zreturn rfl (by first | exact Or.inl rfl | exact Or.inr rfl | (simp only [qbi]; split <;> simp)) ?_
    rw [e4] at hc
    refine ⟨congrArg qI ?_, rfl⟩
    simp only [qbi]
    first | (rw [if_pos (decide_eq_true (by omega))]; done) | (rw [if_neg (fun h9 => by have := of_decide_eq_true h9; omega)]; done)
  · refine qr_const rfl (w := ?_)
    refine qr_goto rfl (w := ?_)
    refine qW_zreturn rfl (by first | exact Or.inl rfl | exact Or.inr rfl | (simp only [qbi]; split <;> simp)) ?_
    rw [e4] at hc
    refine ⟨congrArg qI ?_, rfl⟩
    simp only [qbi]
    first | (rw [if_pos (decide_eq_true (by omega))]; done) | (rw [if_neg (fun h9 => by have := of_decide_eq_true h9; omega)]; done)
theorem sLR_formOf (h : qE r) {rs vs : List Int} {pk bd : Int} {ss : List (List Int)} (hn : qSc m 144 rs vs pk ss.length bd) (hS : qSh m ss) {i : Int} : qP m_LR_formOf [qK 0, qI i] (qT0, m, r) (qK (qFa (qAt rs i))) := by
  have e2 := hn.2.2.1
  have e3 := hn.2.2.2.1
  have e4 := hn.2.2.2.2.1
  have h30 := hn.2.2.2.2.2.1
  have h40 := hS.1
  refine qr_al rfl rfl (w := ?_)
  refine qr_gr rfl kd_0 (hr := (rf_7_4 h)) (w := ?_)
  refine qr_al rfl rfl (w := ?_)
  refine qr_gr rfl kd_0 (hr := (rf_7_6 h)) (w := ?_)
  refine qr_il rfl rfl (w := ?_)
  refine qr_callP rfl (sState_shapeOf (kState h) hn) (qrcv1 kd_144) (w := ?_)
  refine qr_callP rfl (sShapes_formAt h _) (qrcv1 kd_16) (w := ?_)
  refine qW_areturn rfl ?_
  exact ⟨rfl, rfl⟩
theorem sLR_commonShapes_loop (h : qE r) {rs vs : List Int} {pk bd : Int} {ss : List (List Int)} (hn : qSc m 144 rs vs pk ss.length bd) (hS : qSh m ss) : ∀ (k i : Nat) (a : Int), i + k = ss.length → 0 ≤ a → a ≤ i → qP2 m_LR_commonShapes 4 [qK 0, qI a, qI i] (qT0, m, r) (qI (a + qSm k i (fun i => if bd ≤ qCt rs i then 1 else 0))) := by
  have e2 := hn.2.2.1
  have e3 := hn.2.2.2.1
  have e4 := hn.2.2.2.2.1
  have h30 := hn.2.2.2.2.2.1
  have h40 := hS.1
  intro k
  induction k with
  | zero =>
    intro i a hik ha hb
    unfold qP2
    refine qr_il rfl rfl (w := ?_)
    refine qr_al rfl rfl (w := ?_)
    refine qr_gr rfl kd_0 (hr := (rf_7_6 h)) (w := ?_)
    refine qr_gi rfl kd_144 (w := ?_)
    refine qr_icge rfl (fun hc => ?_) (fun hc => ?_)
    · refine qr_il rfl rfl (w := ?_)
      refine qW_ireturn rfl ?_
      exact ⟨by simp [qSm], rfl⟩
    · first | exact absurd hc (by omega) | (rw [e3] at hc; exact absurd hc (by omega))
  | succ k ih =>
    intro i a hik ha hb
    unfold qP2
    simp only [qSm]

    refine qr_il rfl rfl (w := ?_)
    refine qr_al rfl rfl (w := ?_)
    refine qr_gr rfl kd_0 (hr := (rf_7_6 h)) (w := ?_)
    refine qr_gi rfl kd_144 (w := ?_)
    refine qr_icge rfl (fun hc => ?_) (fun hc => ?_)
    · first | exact absurd hc (by omega) | (rw [e3] at hc; exact absurd hc (by omega))
    · refine qr_al rfl rfl (w := ?_)
      refine qr_il rfl rfl (w := ?_)
      refine qr_callP rfl (sLR_isCommon h hn hS) (qrcv1 kd_0) (w := ?_)
      refine qr_ifeqB rfl (fun hcf => ?_) (fun hcf => ?_)
      · refine qr_inc2 rfl (by omega) (w := ?_)
        refine qr_goto rfl (w := ?_)
        have h1 := ih (i + 1) (a) (by omega) (by omega) (by omega)
        have h2 : a + ((if bd ≤ qCt rs i then 1 else 0) + qSm k (i + 1) (fun i => if bd ≤ qCt rs i then 1 else 0)) = (a) + qSm k (i + 1) (fun i => if bd ≤ qCt rs i then 1 else 0) := by
          simp only [decide_eq_true_eq, decide_eq_false_iff_not] at *
          first | (rw [if_pos hcf]; omega) | (rw [if_neg hcf]; omega)
        rw [h2]
        exact h1
      · refine qr_inc1 rfl (by omega) (w := ?_)
        refine qr_inc2 rfl (by omega) (w := ?_)
        refine qr_goto rfl (w := ?_)
        have h1 := ih (i + 1) (a + 1) (by omega) (by omega) (by omega)
        have h2 : a + ((if bd ≤ qCt rs i then 1 else 0) + qSm k (i + 1) (fun i => if bd ≤ qCt rs i then 1 else 0)) = (a + 1) + qSm k (i + 1) (fun i => if bd ≤ qCt rs i then 1 else 0) := by
          simp only [decide_eq_true_eq, decide_eq_false_iff_not] at *
          first | (rw [if_pos hcf]; omega) | (rw [if_neg hcf]; omega)
        rw [h2]
        exact h1
def qCom (rs : List Int) (n : Nat) (bd : Int) : Int := qSm n 0 (fun i => if bd ≤ qCt rs i then 1 else 0)
theorem sLR_commonShapes (h : qE r) {rs vs : List Int} {pk bd : Int} {ss : List (List Int)} (hn : qSc m 144 rs vs pk ss.length bd) (hS : qSh m ss) : qP m_LR_commonShapes [qK 0, none, none] (qT0, m, r) (qI (qCom rs ss.length bd)) := by
  refine qr_const rfl (w := ?_)
  refine qr_is1 rfl (w := ?_)
  refine qr_const rfl (w := ?_)
  refine qr_is2 rfl (w := ?_)
  have h1 := sLR_commonShapes_loop h hn hS ss.length 0 0 (by omega) (by omega) (by omega)
  rw [Int.zero_add] at h1
  exact h1
theorem sLR_rareRecords_loop (h : qE r) {rs vs : List Int} {pk bd : Int} {ss : List (List Int)} (hn : qSc m 144 rs vs pk ss.length bd) (hS : qSh m ss) : ∀ (k i : Nat) (a : Int), i + k = ss.length → 0 ≤ a → a ≤ 100 * i → qP2 m_LR_rareRecords 4 [qK 0, qI a, qI i] (qT0, m, r) (qI (a + qSm k i (fun i => if bd ≤ qCt rs i then 0 else qCt rs i))) := by
  have e2 := hn.2.2.1
  have e3 := hn.2.2.2.1
  have e4 := hn.2.2.2.2.1
  have h30 := hn.2.2.2.2.2.1
  have h40 := hS.1
  intro k
  induction k with
  | zero =>
    intro i a hik ha hb
    unfold qP2
    refine qr_il rfl rfl (w := ?_)
    refine qr_al rfl rfl (w := ?_)
    refine qr_gr rfl kd_0 (hr := (rf_7_6 h)) (w := ?_)
    refine qr_gi rfl kd_144 (w := ?_)
    refine qr_icge rfl (fun hc => ?_) (fun hc => ?_)
    · refine qr_il rfl rfl (w := ?_)
      refine qW_ireturn rfl ?_
      exact ⟨by simp [qSm], rfl⟩
    · first | exact absurd hc (by omega) | (rw [e3] at hc; exact absurd hc (by omega))
  | succ k ih =>
    intro i a hik ha hb
    unfold qP2
    simp only [qSm]
    have hct := qCt_le rs i
    refine qr_il rfl rfl (w := ?_)
    refine qr_al rfl rfl (w := ?_)
    refine qr_gr rfl kd_0 (hr := (rf_7_6 h)) (w := ?_)
    refine qr_gi rfl kd_144 (w := ?_)
    refine qr_icge rfl (fun hc => ?_) (fun hc => ?_)
    · first | exact absurd hc (by omega) | (rw [e3] at hc; exact absurd hc (by omega))
    · refine qr_al rfl rfl (w := ?_)
      refine qr_il rfl rfl (w := ?_)
      refine qr_callP rfl (sLR_isCommon h hn hS) (qrcv1 kd_0) (w := ?_)
      refine qr_ifneB rfl (fun hcf => ?_) (fun hcf => ?_)
      · refine qr_inc2 rfl (by omega) (w := ?_)
        refine qr_goto rfl (w := ?_)
        have h1 := ih (i + 1) (a) (by omega) (by omega) (by omega)
        have h2 : a + ((if bd ≤ qCt rs i then 0 else qCt rs i) + qSm k (i + 1) (fun i => if bd ≤ qCt rs i then 0 else qCt rs i)) = (a) + qSm k (i + 1) (fun i => if bd ≤ qCt rs i then 0 else qCt rs i) := by
          simp only [decide_eq_true_eq, decide_eq_false_iff_not] at *
          first | (rw [if_pos hcf]; omega) | (rw [if_neg hcf]; omega)
        rw [h2]
        exact h1
      · refine qr_il rfl rfl (w := ?_)
        refine qr_al rfl rfl (w := ?_)
        refine qr_gr rfl kd_0 (hr := (rf_7_6 h)) (w := ?_)
        refine qr_il rfl rfl (w := ?_)
        refine qr_callP rfl (sState_recordsWith (kState h) hn) (qrcv1 kd_144) (w := ?_)
        refine qr_add rfl (by omega) (w := ?_)
        refine qr_is1 rfl (w := ?_)
        refine qr_inc2 rfl (by omega) (w := ?_)
        refine qr_goto rfl (w := ?_)
        have h1 := ih (i + 1) (a + qCt rs i) (by omega) (by omega) (by omega)
        have h2 : a + ((if bd ≤ qCt rs i then 0 else qCt rs i) + qSm k (i + 1) (fun i => if bd ≤ qCt rs i then 0 else qCt rs i)) = (a + qCt rs i) + qSm k (i + 1) (fun i => if bd ≤ qCt rs i then 0 else qCt rs i) := by
          simp only [decide_eq_true_eq, decide_eq_false_iff_not] at *
          first | (rw [if_pos hcf]; omega) | (rw [if_neg hcf]; omega)
        rw [h2]
        exact h1
def qRar (rs : List Int) (n : Nat) (bd : Int) : Int := qSm n 0 (fun i => if bd ≤ qCt rs i then 0 else qCt rs i)
theorem sLR_rareRecords (h : qE r) {rs vs : List Int} {pk bd : Int} {ss : List (List Int)} (hn : qSc m 144 rs vs pk ss.length bd) (hS : qSh m ss) : qP m_LR_rareRecords [qK 0, none, none] (qT0, m, r) (qI (qRar rs ss.length bd)) := by
  refine qr_const rfl (w := ?_)
  refine qr_is1 rfl (w := ?_)
  refine qr_const rfl (w := ?_)
  refine qr_is2 rfl (w := ?_)
  have h1 := sLR_rareRecords_loop h hn hS ss.length 0 0 (by omega) (by omega) (by omega)
  rw [Int.zero_add] at h1
  exact h1
theorem sLR_sizeFor_loop (h : qE r) {rs vs : List Int} {pk bd : Int} {ss : List (List Int)} (hn : qSc m 144 rs vs pk ss.length bd) (hS : qSh m ss) {b : Int} : ∀ (k i : Nat) (a : Int) (y : qA) (z : qA), i + k = ss.length → 0 ≤ a → a ≤ 30 + 5000 * i → qP2 m_LR_sizeFor 10 [qK 0, qI b, qI a, qI i, y, z] (qT0, m, r) (qI (a + qSm k i (fun i => if b ≤ qCt rs i then 1 + (qGf ss i).length + qCt rs i * qLv (qGf ss i) else qCt rs i * (2 * qLv (qGf ss i) + ((qGf ss i).length - qLv (qGf ss i)))))) := by
  have e2 := hn.2.2.1
  have e3 := hn.2.2.2.1
  have e4 := hn.2.2.2.2.1
  have h30 := hn.2.2.2.2.2.1
  have h40 := hS.1
  intro k
  induction k with
  | zero =>
    intro i a y z hik ha hb
    unfold qP2
    refine qr_il rfl rfl (w := ?_)
    refine qr_al rfl rfl (w := ?_)
    refine qr_gr rfl kd_0 (hr := (rf_7_6 h)) (w := ?_)
    refine qr_gi rfl kd_144 (w := ?_)
    refine qr_icge rfl (fun hc => ?_) (fun hc => ?_)
    · refine qr_il rfl rfl (w := ?_)
      refine qW_ireturn rfl ?_
      exact ⟨by simp [qSm], rfl⟩
    · first | exact absurd hc (by omega) | (rw [e3] at hc; exact absurd hc (by omega))
  | succ k ih =>
    intro i a y z hik ha hb
    unfold qP2
    simp only [qSm]
    have hct := qCt_le rs i
    have hlv := qLv_le (qGf ss i)
    have hln := qGf_len hS i
    have hm1 := qmulb (X := 30) (Y := 26) hct.1 (by omega) hlv.1 (by omega)
    have hm2 := qmulb (b := 2 * qLv (qGf ss i) + (((qGf ss i).length : Int) - qLv (qGf ss i))) (X := 30) (Y := 100) hct.1 (by omega) (by omega) (by omega)
    refine qr_il rfl rfl (w := ?_)
    refine qr_al rfl rfl (w := ?_)
    refine qr_gr rfl kd_0 (hr := (rf_7_6 h)) (w := ?_)
    refine qr_gi rfl kd_144 (w := ?_)
    refine qr_icge rfl (fun hc => ?_) (fun hc => ?_)
    · first | exact absurd hc (by omega) | (rw [e3] at hc; exact absurd hc (by omega))
    · refine qr_al rfl rfl (w := ?_)
      refine qr_gr rfl kd_0 (hr := (rf_7_4 h)) (w := ?_)
      refine qr_il rfl rfl (w := ?_)
      refine qr_callP rfl (sShapes_formAt h _) (qrcv1 kd_16) (w := ?_)
      refine qr_as4 rfl (w := ?_)
      refine qr_al rfl rfl (w := ?_)
      refine qr_gr rfl kd_0 (hr := (rf_7_6 h)) (w := ?_)
      refine qr_il rfl rfl (w := ?_)
      refine qr_callP rfl (sState_recordsWith (kState h) hn) (qrcv1 kd_144) (w := ?_)
      refine qr_is5 rfl (w := ?_)
      refine qr_il rfl rfl (w := ?_)
      refine qr_il rfl rfl (w := ?_)
      refine qr_iclt rfl (fun hcf => ?_) (fun hcf => ?_)
      · refine qr_il rfl rfl (w := ?_)
        refine qr_il rfl rfl (w := ?_)
        refine qr_const rfl (w := ?_)
        refine qr_al rfl rfl (w := ?_)
        refine qr_callP rfl (sForm_leaves (qFa_k h i) (qFa_c hS (by omega))) (qrcv1 (qFa_k h i).1) (w := ?_)
        refine qr_mul rfl (by omega) (w := ?_)
        refine qr_al rfl rfl (w := ?_)
        refine qr_callP rfl (sForm_branches (qFa_k h i) (qFa_c hS (by omega))) (qrcv1 (qFa_k h i).1) (w := ?_)
        refine qr_add rfl (by omega) (w := ?_)
        refine qr_mul rfl (by omega) (w := ?_)
        refine qr_add rfl (by omega) (w := ?_)
        refine qr_is2 rfl (w := ?_)
        refine qr_inc3 rfl (by omega) (w := ?_)
        refine qr_goto rfl (w := ?_)
        have h1 := fun (y z : qA) => ih (i + 1) (a + qCt rs i * (2 * qLv (qGf ss i) + ((qGf ss i).length - qLv (qGf ss i)))) y z (by omega) (by omega) (by omega)
        have h2 : a + ((if b ≤ qCt rs i then 1 + (qGf ss i).length + qCt rs i * qLv (qGf ss i) else qCt rs i * (2 * qLv (qGf ss i) + ((qGf ss i).length - qLv (qGf ss i)))) + qSm k (i + 1) (fun i => if b ≤ qCt rs i then 1 + (qGf ss i).length + qCt rs i * qLv (qGf ss i) else qCt rs i * (2 * qLv (qGf ss i) + ((qGf ss i).length - qLv (qGf ss i))))) = (a + qCt rs i * (2 * qLv (qGf ss i) + ((qGf ss i).length - qLv (qGf ss i)))) + qSm k (i + 1) (fun i => if b ≤ qCt rs i then 1 + (qGf ss i).length + qCt rs i * qLv (qGf ss i) else qCt rs i * (2 * qLv (qGf ss i) + ((qGf ss i).length - qLv (qGf ss i)))) := by
          first | (rw [if_pos hcf]; omega) | (rw [if_neg (by omega)]; omega)
        rw [h2]
        exact h1 _ _
      · refine qr_il rfl rfl (w := ?_)
        refine qr_const rfl (w := ?_)
        refine qr_al rfl rfl (w := ?_)
        refine qr_callP rfl (sForm_size (qFa_k h i) (qFa_c hS (by omega))) (qrcv1 (qFa_k h i).1) (w := ?_)
        refine qr_add rfl (by omega) (w := ?_)
        refine qr_il rfl rfl (w := ?_)
        refine qr_al rfl rfl (w := ?_)
        refine qr_callP rfl (sForm_leaves (qFa_k h i) (qFa_c hS (by omega))) (qrcv1 (qFa_k h i).1) (w := ?_)
        refine qr_mul rfl (by omega) (w := ?_)
        refine qr_add rfl (by omega) (w := ?_)
        refine qr_add rfl (by omega) (w := ?_)
        refine qr_is2 rfl (w := ?_)
        refine qr_goto rfl (w := ?_)
        refine qr_inc3 rfl (by omega) (w := ?_)
        refine qr_goto rfl (w := ?_)
        have h1 := fun (y z : qA) => ih (i + 1) (a + (1 + (qGf ss i).length + qCt rs i * qLv (qGf ss i))) y z (by omega) (by omega) (by omega)
        have h2 : a + ((if b ≤ qCt rs i then 1 + (qGf ss i).length + qCt rs i * qLv (qGf ss i) else qCt rs i * (2 * qLv (qGf ss i) + ((qGf ss i).length - qLv (qGf ss i)))) + qSm k (i + 1) (fun i => if b ≤ qCt rs i then 1 + (qGf ss i).length + qCt rs i * qLv (qGf ss i) else qCt rs i * (2 * qLv (qGf ss i) + ((qGf ss i).length - qLv (qGf ss i))))) = (a + (1 + (qGf ss i).length + qCt rs i * qLv (qGf ss i))) + qSm k (i + 1) (fun i => if b ≤ qCt rs i then 1 + (qGf ss i).length + qCt rs i * qLv (qGf ss i) else qCt rs i * (2 * qLv (qGf ss i) + ((qGf ss i).length - qLv (qGf ss i)))) := by
          first | (rw [if_pos hcf]; omega) | (rw [if_neg (by omega)]; omega)
        rw [h2]
        exact h1 _ _
def qSz (rs : List Int) (ss : List (List Int)) (b : Int) : Int := qNe rs + qSm ss.length 0 (fun i => if b ≤ qCt rs i then 1 + (qGf ss i).length + qCt rs i * qLv (qGf ss i) else qCt rs i * (2 * qLv (qGf ss i) + ((qGf ss i).length - qLv (qGf ss i))))
theorem sLR_sizeFor (h : qE r) {rs vs : List Int} {pk bd : Int} {ss : List (List Int)} (hn : qSc m 144 rs vs pk ss.length bd) (hS : qSh m ss) {b : Int} : qP m_LR_sizeFor [qK 0, qI b, none, none, none, none] (qT0, m, r) (qI (qSz rs ss b)) := by
  have e2 := hn.2.2.1
  have e3 := hn.2.2.2.1
  have e4 := hn.2.2.2.2.1
  have h30 := hn.2.2.2.2.2.1
  have h40 := hS.1
  have hne := qNe_le rs
  refine qr_al rfl rfl (w := ?_)
  refine qr_gr rfl kd_0 (hr := (rf_7_6 h)) (w := ?_)
  refine qr_callP rfl (sState_recordsLeft (kState h) hn) (qrcv1 kd_144) (w := ?_)
  refine qr_is2 rfl (w := ?_)
  refine qr_const rfl (w := ?_)
  refine qr_is3 rfl (w := ?_)
  exact sLR_sizeFor_loop h hn hS (b := b) ss.length 0 (qNe rs) none none (by omega) (by omega) (by omega)
theorem sLR_costOf_loop (h : qE r) {rs vs : List Int} {pk bd : Int} {ss : List (List Int)} (hn : qSc m 144 rs vs pk ss.length bd) (hS : qSh m ss) {p : Int} : ∀ (k i : Nat) (a : Int) (y : qA), i + k = ss.length → 0 ≤ a → a ≤ 5000 * i → qP2 m_LR_costOf 4 [qK 0, qI p, qI a, qI i, y] (qT0, m, r) (qI (a + qSm k i (fun i => if bd ≤ qCt rs i then (if (qGf ss i).contains p = true then qCt rs i else 0) else qCt rs i * (qGf ss i).length))) := by
  have e2 := hn.2.2.1
  have e3 := hn.2.2.2.1
  have e4 := hn.2.2.2.2.1
  have h30 := hn.2.2.2.2.2.1
  have h40 := hS.1
  intro k
  induction k with
  | zero =>
    intro i a y hik ha hb
    unfold qP2
    refine qr_il rfl rfl (w := ?_)
    refine qr_al rfl rfl (w := ?_)
    refine qr_gr rfl kd_0 (hr := (rf_7_6 h)) (w := ?_)
    refine qr_gi rfl kd_144 (w := ?_)
    refine qr_icge rfl (fun hc => ?_) (fun hc => ?_)
    · refine qr_il rfl rfl (w := ?_)
      refine qW_ireturn rfl ?_
      exact ⟨by simp [qSm], rfl⟩
    · first | exact absurd hc (by omega) | (rw [e3] at hc; exact absurd hc (by omega))
  | succ k ih =>
    intro i a y hik ha hb
    unfold qP2
    simp only [qSm]
    have hct := qCt_le rs i
    have hln := qGf_len hS i
    have hm1 := qmulb (b := ((qGf ss i).length : Int)) (X := 30) (Y := 26) hct.1 (by omega) (by omega) (by omega)
    refine qr_il rfl rfl (w := ?_)
    refine qr_al rfl rfl (w := ?_)
    refine qr_gr rfl kd_0 (hr := (rf_7_6 h)) (w := ?_)
    refine qr_gi rfl kd_144 (w := ?_)
    refine qr_icge rfl (fun hc => ?_) (fun hc => ?_)
    · first | exact absurd hc (by omega) | (rw [e3] at hc; exact absurd hc (by omega))
    · refine qr_al rfl rfl (w := ?_)
      refine qr_gr rfl kd_0 (hr := (rf_7_4 h)) (w := ?_)
      refine qr_il rfl rfl (w := ?_)
      refine qr_callP rfl (sShapes_formAt h _) (qrcv1 kd_16) (w := ?_)
      refine qr_as4 rfl (w := ?_)
      refine qr_al rfl rfl (w := ?_)
      refine qr_il rfl rfl (w := ?_)
      refine qr_callP rfl (sLR_isCommon h hn hS) (qrcv1 kd_0) (w := ?_)
      refine qr_ifneB rfl (fun hcf => ?_) (fun hcf => ?_)
      · refine qr_al rfl rfl (w := ?_)
        refine qr_il rfl rfl (w := ?_)
        refine qr_callP rfl (sForm_holds (qFa_k h i) (qFa_c hS (by omega))) (qrcv1 (qFa_k h i).1) (w := ?_)
        refine qr_ifeqB rfl (fun hcft => ?_) (fun hcft => ?_)
        · refine qr_inc3 rfl (by omega) (w := ?_)
          refine qr_goto rfl (w := ?_)
          have h1 := fun (y : qA) => ih (i + 1) (a) y (by omega) (by omega) (by omega)
          have h2 : a + ((if bd ≤ qCt rs i then (if (qGf ss i).contains p = true then qCt rs i else 0) else qCt rs i * (qGf ss i).length) + qSm k (i + 1) (fun i => if bd ≤ qCt rs i then (if (qGf ss i).contains p = true then qCt rs i else 0) else qCt rs i * (qGf ss i).length)) = (a) + qSm k (i + 1) (fun i => if bd ≤ qCt rs i then (if (qGf ss i).contains p = true then qCt rs i else 0) else qCt rs i * (qGf ss i).length) := by
            simp only [decide_eq_true_eq, decide_eq_false_iff_not, Bool.not_eq_true] at *
            first
              | (rw [if_pos hcf, if_pos hcft]; omega)
              | (rw [if_pos hcf, if_neg (by rw [hcft]; decide)]; omega)
              | (rw [if_neg hcf]; omega)
          rw [h2]
          exact h1 _
        · refine qr_il rfl rfl (w := ?_)
          refine qr_al rfl rfl (w := ?_)
          refine qr_gr rfl kd_0 (hr := (rf_7_6 h)) (w := ?_)
          refine qr_il rfl rfl (w := ?_)
          refine qr_callP rfl (sState_recordsWith (kState h) hn) (qrcv1 kd_144) (w := ?_)
          refine qr_add rfl (by omega) (w := ?_)
          refine qr_is2 rfl (w := ?_)
          refine qr_inc3 rfl (by omega) (w := ?_)
          refine qr_goto rfl (w := ?_)
          have h1 := fun (y : qA) => ih (i + 1) (a + qCt rs i) y (by omega) (by omega) (by omega)
          have h2 : a + ((if bd ≤ qCt rs i then (if (qGf ss i).contains p = true then qCt rs i else 0) else qCt rs i * (qGf ss i).length) + qSm k (i + 1) (fun i => if bd ≤ qCt rs i then (if (qGf ss i).contains p = true then qCt rs i else 0) else qCt rs i * (qGf ss i).length)) = (a + qCt rs i) + qSm k (i + 1) (fun i => if bd ≤ qCt rs i then (if (qGf ss i).contains p = true then qCt rs i else 0) else qCt rs i * (qGf ss i).length) := by
            simp only [decide_eq_true_eq, decide_eq_false_iff_not, Bool.not_eq_true] at *
            first
              | (rw [if_pos hcf, if_pos hcft]; omega)
              | (rw [if_pos hcf, if_neg (by rw [hcft]; decide)]; omega)
              | (rw [if_neg hcf]; omega)
          rw [h2]
          exact h1 _
      · refine qr_il rfl rfl (w := ?_)
        refine qr_al rfl rfl (w := ?_)
        refine qr_gr rfl kd_0 (hr := (rf_7_6 h)) (w := ?_)
        refine qr_il rfl rfl (w := ?_)
        refine qr_callP rfl (sState_recordsWith (kState h) hn) (qrcv1 kd_144) (w := ?_)
        refine qr_al rfl rfl (w := ?_)
        refine qr_callP rfl (sForm_size (qFa_k h i) (qFa_c hS (by omega))) (qrcv1 (qFa_k h i).1) (w := ?_)
        refine qr_mul rfl (by omega) (w := ?_)
        refine qr_add rfl (by omega) (w := ?_)
        refine qr_is2 rfl (w := ?_)
        refine qr_goto rfl (w := ?_)
        refine qr_inc3 rfl (by omega) (w := ?_)
        refine qr_goto rfl (w := ?_)
        have h1 := fun (y : qA) => ih (i + 1) (a + qCt rs i * (qGf ss i).length) y (by omega) (by omega) (by omega)
        have h2 : a + ((if bd ≤ qCt rs i then (if (qGf ss i).contains p = true then qCt rs i else 0) else qCt rs i * (qGf ss i).length) + qSm k (i + 1) (fun i => if bd ≤ qCt rs i then (if (qGf ss i).contains p = true then qCt rs i else 0) else qCt rs i * (qGf ss i).length)) = (a + qCt rs i * (qGf ss i).length) + qSm k (i + 1) (fun i => if bd ≤ qCt rs i then (if (qGf ss i).contains p = true then qCt rs i else 0) else qCt rs i * (qGf ss i).length) := by
          simp only [decide_eq_true_eq, decide_eq_false_iff_not, Bool.not_eq_true] at *
          first
            | (rw [if_pos hcf, if_pos hcft]; omega)
            | (rw [if_pos hcf, if_neg (by rw [hcft]; decide)]; omega)
            | (rw [if_neg hcf]; omega)
        rw [h2]
        exact h1 _
def qCst (rs : List Int) (ss : List (List Int)) (bd p : Int) : Int := qSm ss.length 0 (fun i => if bd ≤ qCt rs i then (if (qGf ss i).contains p = true then qCt rs i else 0) else qCt rs i * (qGf ss i).length)
theorem sLR_costOf (h : qE r) {rs vs : List Int} {pk bd : Int} {ss : List (List Int)} (hn : qSc m 144 rs vs pk ss.length bd) (hS : qSh m ss) {p : Int} : qP m_LR_costOf [qK 0, qI p, none, none, none] (qT0, m, r) (qI (qCst rs ss bd p)) := by
  refine qr_const rfl (w := ?_)
  refine qr_is2 rfl (w := ?_)
  refine qr_const rfl (w := ?_)
  refine qr_is3 rfl (w := ?_)
  have h1 := sLR_costOf_loop h hn hS (p := p) ss.length 0 0 none (by omega) (by omega) (by omega)
  rw [Int.zero_add] at h1
  exact h1
theorem sLR_recordsHolding_loop (h : qE r) {rs vs : List Int} {pk bd : Int} {ss : List (List Int)} (hn : qSc m 144 rs vs pk ss.length bd) (hS : qSh m ss) {p : Int} : ∀ (k i : Nat) (a : Int), i + k = ss.length → 0 ≤ a → a ≤ 100 * i → qP2 m_LR_recordsHolding 4 [qK 0, qI p, qI a, qI i] (qT0, m, r) (qI (a + qSm k i (fun i => if (qGf ss i).contains p = true then qCt rs i else 0))) := by
  have e2 := hn.2.2.1
  have e3 := hn.2.2.2.1
  have e4 := hn.2.2.2.2.1
  have h30 := hn.2.2.2.2.2.1
  have h40 := hS.1
  intro k
  induction k with
  | zero =>
    intro i a hik ha hb
    unfold qP2
    refine qr_il rfl rfl (w := ?_)
    refine qr_al rfl rfl (w := ?_)
    refine qr_gr rfl kd_0 (hr := (rf_7_6 h)) (w := ?_)
    refine qr_gi rfl kd_144 (w := ?_)
    refine qr_icge rfl (fun hc => ?_) (fun hc => ?_)
    · refine qr_il rfl rfl (w := ?_)
      refine qW_ireturn rfl ?_
      exact ⟨by simp [qSm], rfl⟩
    · first | exact absurd hc (by omega) | (rw [e3] at hc; exact absurd hc (by omega))
  | succ k ih =>
    intro i a hik ha hb
    unfold qP2
    simp only [qSm]
    have hct := qCt_le rs i
    refine qr_il rfl rfl (w := ?_)
    refine qr_al rfl rfl (w := ?_)
    refine qr_gr rfl kd_0 (hr := (rf_7_6 h)) (w := ?_)
    refine qr_gi rfl kd_144 (w := ?_)
    refine qr_icge rfl (fun hc => ?_) (fun hc => ?_)
    · first | exact absurd hc (by omega) | (rw [e3] at hc; exact absurd hc (by omega))
    · refine qr_al rfl rfl (w := ?_)
      refine qr_gr rfl kd_0 (hr := (rf_7_4 h)) (w := ?_)
      refine qr_il rfl rfl (w := ?_)
      refine qr_callP rfl (sShapes_formAt h _) (qrcv1 kd_16) (w := ?_)
      refine qr_il rfl rfl (w := ?_)
      refine qr_callP rfl (sForm_holds (qFa_k h i) (qFa_c hS (by omega))) (qrcv1 (qFa_k h i).1) (w := ?_)
      refine qr_ifeqB rfl (fun hcf => ?_) (fun hcf => ?_)
      · refine qr_inc3 rfl (by omega) (w := ?_)
        refine qr_goto rfl (w := ?_)
        have h1 := ih (i + 1) (a) (by omega) (by omega) (by omega)
        have h2 : a + ((if (qGf ss i).contains p = true then qCt rs i else 0) + qSm k (i + 1) (fun i => if (qGf ss i).contains p = true then qCt rs i else 0)) = (a) + qSm k (i + 1) (fun i => if (qGf ss i).contains p = true then qCt rs i else 0) := by
          first
            | (rw [if_pos hcf]; omega)
            | (rw [if_neg (by rw [hcf]; decide)]; omega)
        rw [h2]
        exact h1
      · refine qr_il rfl rfl (w := ?_)
        refine qr_al rfl rfl (w := ?_)
        refine qr_gr rfl kd_0 (hr := (rf_7_6 h)) (w := ?_)
        refine qr_il rfl rfl (w := ?_)
        refine qr_callP rfl (sState_recordsWith (kState h) hn) (qrcv1 kd_144) (w := ?_)
        refine qr_add rfl (by omega) (w := ?_)
        refine qr_is2 rfl (w := ?_)
        refine qr_inc3 rfl (by omega) (w := ?_)
        refine qr_goto rfl (w := ?_)
        have h1 := ih (i + 1) (a + qCt rs i) (by omega) (by omega) (by omega)
        have h2 : a + ((if (qGf ss i).contains p = true then qCt rs i else 0) + qSm k (i + 1) (fun i => if (qGf ss i).contains p = true then qCt rs i else 0)) = (a + qCt rs i) + qSm k (i + 1) (fun i => if (qGf ss i).contains p = true then qCt rs i else 0) := by
          first
            | (rw [if_pos hcf]; omega)
            | (rw [if_neg (by rw [hcf]; decide)]; omega)
        rw [h2]
        exact h1
def qHol (rs : List Int) (ss : List (List Int)) (p : Int) : Int := qSm ss.length 0 (fun i => if (qGf ss i).contains p = true then qCt rs i else 0)
theorem sLR_recordsHolding (h : qE r) {rs vs : List Int} {pk bd : Int} {ss : List (List Int)} (hn : qSc m 144 rs vs pk ss.length bd) (hS : qSh m ss) {p : Int} : qP m_LR_recordsHolding [qK 0, qI p, none, none] (qT0, m, r) (qI (qHol rs ss p)) := by
  refine qr_const rfl (w := ?_)
  refine qr_is2 rfl (w := ?_)
  refine qr_const rfl (w := ?_)
  refine qr_is3 rfl (w := ?_)
  have h1 := sLR_recordsHolding_loop h hn hS (p := p) ss.length 0 0 (by omega) (by omega) (by omega)
  rw [Int.zero_add] at h1
  exact h1
/-- a record's leaf stands where its values are, and they are small -/
def qVal (rs vs : List Int) (ss : List (List Int)) : Prop := ∀ i : Nat, i < rs.length → (qAt rs i = -9 ∨ (0 ≤ qAt rs i ∧ qAt rs i < ss.length)) ∧ ∀ j : Nat, (j : Int) < qLv (qGf ss (qAt rs i)) → j < 10 ∧ 0 ≤ qAt vs (i * 10 + j) ∧ qAt vs (i * 10 + j) ≤ 999
theorem qLp_rng (fs : List Int) (p : Int) : ∀ a, qLp fs p a = -9 ∨ (a ≤ qLp fs p a ∧ qLp fs p a ≤ a + qLv fs) := by
  induction fs with
  | nil => intro a; left; rfl
  | cons f t ih =>
    intro a
    have h0 := qLv_le t
    simp only [qLp, qLv]
    split
    · right
      split <;> omega
    · rcases ih (a + if f < 100 then 1 else 0) with h | h
      · left; exact h
      · right
        split at h <;> rename_i h9 <;> simp only [h9, if_true, if_false] <;> omega
theorem qLp_lt (fs : List Int) {p : Int} (hp : p < 100) : ∀ a, qLp fs p a = -9 ∨ (a ≤ qLp fs p a ∧ qLp fs p a < a + qLv fs) := by
  induction fs with
  | nil => intro a; left; rfl
  | cons f t ih =>
    intro a
    have h0 := qLv_le t
    simp only [qLp, qLv]
    split
    · rename_i hf
      right
      rw [if_pos (by omega)]
      omega
    · rcases ih (a + if f < 100 then 1 else 0) with h | h
      · left; exact h
      · right
        split at h <;> rename_i h9 <;> simp only [h9, if_true, if_false] <;> omega
theorem sLR_sumOfPath_loop (h : qE r) {rs vs : List Int} {pk bd : Int} {ss : List (List Int)} (hn : qSc m 144 rs vs pk ss.length bd) (hS : qSh m ss) (hV : qVal rs vs ss) {p : Int} (hp0 : 0 ≤ p ∧ p < 100) : ∀ (k i : Nat) (a : Int) (y : qA), i + k = rs.length → 0 ≤ a → a ≤ 999 * i → qP2 m_LR_sumOfPath 4 [qK 0, qI p, qI a, qI i, y] (qT0, m, r) (qI (a + qSm k i (fun i => if qLp (qGf ss (qAt rs i)) p 0 = -9 then 0 else qAt vs (i * 10 + qLp (qGf ss (qAt rs i)) p 0)))) := by
  have e2 := hn.2.2.1
  have e3 := hn.2.2.2.1
  have e4 := hn.2.2.2.2.1
  have h30 := hn.2.2.2.2.2.1
  have h40 := hS.1
  intro k
  induction k with
  | zero =>
    intro i a y hik ha hb
    unfold qP2
    refine qr_il rfl rfl (w := ?_)
    refine qr_al rfl rfl (w := ?_)
    refine qr_gr rfl kd_0 (hr := (rf_7_6 h)) (w := ?_)
    refine qr_callP rfl (sState_recordsRead (kState h) hn) (qrcv1 kd_144) (w := ?_)
    refine qr_icge rfl (fun hc => ?_) (fun hc => ?_)
    · refine qr_il rfl rfl (w := ?_)
      refine qW_ireturn rfl ?_
      exact ⟨by simp [qSm], rfl⟩
    · exact absurd hc (by omega)
  | succ k ih =>
    intro i a y hik ha hb
    unfold qP2
    simp only [qSm]
    obtain ⟨g1, g2⟩ := hV i (by omega)
    have g3 := qLp_lt (qGf ss (qAt rs i)) hp0.2 0
    have g4 : qLp (qGf ss (qAt rs i)) p 0 ≠ -9 → (qLp (qGf ss (qAt rs i)) p 0) < 10 ∧ 0 ≤ qAt vs (i * 10 + qLp (qGf ss (qAt rs i)) p 0) ∧ qAt vs (i * 10 + qLp (qGf ss (qAt rs i)) p 0) ≤ 999 := fun hne => by
      have h5 := g2 (qLp (qGf ss (qAt rs i)) p 0).toNat (by omega)
      rw [Int.toNat_of_nonneg (by omega)] at h5
      omega
    refine qr_il rfl rfl (w := ?_)
    refine qr_al rfl rfl (w := ?_)
    refine qr_gr rfl kd_0 (hr := (rf_7_6 h)) (w := ?_)
    refine qr_callP rfl (sState_recordsRead (kState h) hn) (qrcv1 kd_144) (w := ?_)
    refine qr_icge rfl (fun hc => ?_) (fun hc => ?_)
    · exact absurd hc (by omega)
    · refine qr_al rfl rfl (w := ?_)
      refine qr_il rfl rfl (w := ?_)
      refine qr_callP rfl (sLR_formOf h hn hS) (qrcv1 kd_0) (w := ?_)
      refine qr_il rfl rfl (w := ?_)
      refine qr_callP rfl (sForm_leafPlace (qFa_k h (qAt rs i)) (qFa_c (s := qAt rs i) hS (by omega))) (qrcv1 (qFa_k h (qAt rs i)).1) (w := ?_)
      refine qr_is4 rfl (w := ?_)
      refine qr_il rfl rfl (w := ?_)
      refine qr_const rfl (w := ?_)
      refine qr_iceq rfl (fun hcf => ?_) (fun hcf => ?_)
      · refine qr_inc3 rfl (by omega) (w := ?_)
        refine qr_goto rfl (w := ?_)
        have h1 := fun (y : qA) => ih (i + 1) (a) y (by omega) (by omega) (by omega)
        have h2 : a + ((if qLp (qGf ss (qAt rs i)) p 0 = -9 then 0 else qAt vs (i * 10 + qLp (qGf ss (qAt rs i)) p 0)) + qSm k (i + 1) (fun i => if qLp (qGf ss (qAt rs i)) p 0 = -9 then 0 else qAt vs (i * 10 + qLp (qGf ss (qAt rs i)) p 0))) = (a) + qSm k (i + 1) (fun i => if qLp (qGf ss (qAt rs i)) p 0 = -9 then 0 else qAt vs (i * 10 + qLp (qGf ss (qAt rs i)) p 0)) := by
          first | (rw [if_pos hcf]; omega) | (rw [if_neg hcf]; omega)
        rw [h2]
        exact h1 _
      · refine qr_il rfl rfl (w := ?_)
        refine qr_al rfl rfl (w := ?_)
        refine qr_gr rfl kd_0 (hr := (rf_7_6 h)) (w := ?_)
        refine qr_il rfl rfl (w := ?_)
        refine qr_il rfl rfl (w := ?_)
        refine qr_callP rfl (sState_valueAt (i := i) (j := qLp (qGf ss (qAt rs i)) p 0) (kState h) hn (by omega) (by omega)) (qrcv1 kd_144) (w := ?_)
        refine qr_add rfl (by omega) (w := ?_)
        refine qr_is2 rfl (w := ?_)
        refine qr_inc3 rfl (by omega) (w := ?_)
        refine qr_goto rfl (w := ?_)
        have h1 := fun (y : qA) => ih (i + 1) (a + qAt vs (i * 10 + qLp (qGf ss (qAt rs i)) p 0)) y (by omega) (by omega) (by omega)
        have h2 : a + ((if qLp (qGf ss (qAt rs i)) p 0 = -9 then 0 else qAt vs (i * 10 + qLp (qGf ss (qAt rs i)) p 0)) + qSm k (i + 1) (fun i => if qLp (qGf ss (qAt rs i)) p 0 = -9 then 0 else qAt vs (i * 10 + qLp (qGf ss (qAt rs i)) p 0))) = (a + qAt vs (i * 10 + qLp (qGf ss (qAt rs i)) p 0)) + qSm k (i + 1) (fun i => if qLp (qGf ss (qAt rs i)) p 0 = -9 then 0 else qAt vs (i * 10 + qLp (qGf ss (qAt rs i)) p 0)) := by
          first | (rw [if_pos hcf]; omega) | (rw [if_neg hcf]; omega)
        rw [h2]
        exact h1 _
def qSop (rs vs : List Int) (ss : List (List Int)) (p : Int) : Int := qSm rs.length 0 (fun i => if qLp (qGf ss (qAt rs i)) p 0 = -9 then 0 else qAt vs (i * 10 + qLp (qGf ss (qAt rs i)) p 0))
theorem sLR_sumOfPath (h : qE r) {rs vs : List Int} {pk bd : Int} {ss : List (List Int)} (hn : qSc m 144 rs vs pk ss.length bd) (hS : qSh m ss) (hV : qVal rs vs ss) {p : Int} (hp0 : 0 ≤ p ∧ p < 100) : qP m_LR_sumOfPath [qK 0, qI p, none, none, none] (qT0, m, r) (qI (qSop rs vs ss p)) := by
  refine qr_const rfl (w := ?_)
  refine qr_is2 rfl (w := ?_)
  refine qr_const rfl (w := ?_)
  refine qr_is3 rfl (w := ?_)
  have h1 := sLR_sumOfPath_loop h hn hS hV hp0 rs.length 0 0 none (by omega) (by omega) (by omega)
  rw [Int.zero_add] at h1
  exact h1
theorem sLR_sumOfRecord_loop (h : qE r) {rs vs : List Int} {pk bd : Int} {ss : List (List Int)} (hn : qSc m 144 rs vs pk ss.length bd) (hS : qSh m ss) {i : Nat} {n : Nat} (hn10 : n ≤ 10) (hi : i < 30) (hV : ∀ j : Nat, j < n → 0 ≤ qAt vs (i * 10 + j) ∧ qAt vs (i * 10 + j) ≤ 999) : ∀ (k j : Nat) (a : Int), j + k = n → 0 ≤ a → a ≤ 999 * j → qP2 m_LR_sumOfRecord 5 [qK 0, qI i, qI n, qI a, qI j] (qT0, m, r) (qI (a + qSm k j (fun j => qAt vs (i * 10 + j)))) := by
  intro k
  induction k with
  | zero =>
    intro j a hik ha hb
    unfold qP2
    refine qr_il rfl rfl (w := ?_)
    refine qr_il rfl rfl (w := ?_)
    refine qr_icge rfl (fun hc => ?_) (fun hc => ?_)
    · refine qr_il rfl rfl (w := ?_)
      refine qW_ireturn rfl ?_
      exact ⟨by simp [qSm], rfl⟩
    · exact absurd hc (by omega)
  | succ k ih =>
    intro j a hik ha hb
    unfold qP2
    simp only [qSm]
    have g2 := hV j (by omega)
    refine qr_il rfl rfl (w := ?_)
    refine qr_il rfl rfl (w := ?_)
    refine qr_icge rfl (fun hc => ?_) (fun hc => ?_)
    · exact absurd hc (by omega)
    · refine qr_il rfl rfl (w := ?_)
      refine qr_al rfl rfl (w := ?_)
      refine qr_gr rfl kd_0 (hr := (rf_7_6 h)) (w := ?_)
      refine qr_il rfl rfl (w := ?_)
      refine qr_il rfl rfl (w := ?_)
      refine qr_callP rfl (sState_valueAt (i := i) (j := j) (kState h) hn (by omega) (by omega)) (qrcv1 kd_144) (w := ?_)
      refine qr_add rfl (by omega) (w := ?_)
      refine qr_is3 rfl (w := ?_)
      refine qr_inc4 rfl (by omega) (w := ?_)
      refine qr_goto rfl (w := ?_)
      have h1 := ih (j + 1) (a + qAt vs (i * 10 + j)) (by omega) (by omega) (by omega)
      rw [Int.add_assoc] at h1
      exact h1
theorem sLR_sumOfRecord (h : qE r) {rs vs : List Int} {pk bd : Int} {ss : List (List Int)} (hn : qSc m 144 rs vs pk ss.length bd) (hS : qSh m ss) {i : Nat} {n : Nat} (hn10 : n ≤ 10) (hi : i < 30) (hV : ∀ j : Nat, j < n → 0 ≤ qAt vs (i * 10 + j) ∧ qAt vs (i * 10 + j) ≤ 999) : qP m_LR_sumOfRecord [qK 0, qI i, qI n, none, none] (qT0, m, r) (qI (qSm n 0 (fun j => qAt vs (i * 10 + j)))) := by
  refine qr_const rfl (w := ?_)
  refine qr_is3 rfl (w := ?_)
  refine qr_const rfl (w := ?_)
  refine qr_is4 rfl (w := ?_)
  have h1 := sLR_sumOfRecord_loop h hn hS hn10 hi hV n 0 0 (by omega) (by omega) (by omega)
  rw [Int.zero_add] at h1
  exact h1
/-- the bound with the smallest size, over k bounds from b on, best so far c -/
def qBb (g : Int → Int) : Nat → Int → Int → Int
  | 0, _, c => c
  | k + 1, b, c => qBb g k (b + 1) (if g b < g c then b else c)
theorem sLR_bestBound_loop (h : qE r) {rs vs : List Int} {pk bd : Int} {ss : List (List Int)} (hn : qSc m 144 rs vs pk ss.length bd) (hS : qSh m ss) : ∀ (k : Nat) (b c : Int) (y : qA), b + k = 11 → 1 ≤ b → qP2 m_LR_bestBound 10 [qK 0, qI c, qI (qSz rs ss c), qI b, y] (qT0, m, r) (qI (qBb (qSz rs ss) k b c)) := by
  intro k
  induction k with
  | zero =>
    intro b c y hik hb
    unfold qP2
    refine qr_il rfl rfl (w := ?_)
    refine qr_const rfl (w := ?_)
    refine qr_icgt rfl (fun hc => ?_) (fun hc => ?_)
    · refine qr_il rfl rfl (w := ?_)
      refine qW_ireturn rfl ?_
      exact ⟨rfl, rfl⟩
    · exact absurd hc (by omega)
  | succ k ih =>
    intro b c y hik hb
    unfold qP2
    simp only [qBb]
    refine qr_il rfl rfl (w := ?_)
    refine qr_const rfl (w := ?_)
    refine qr_icgt rfl (fun hc => ?_) (fun hc => ?_)
    · exact absurd hc (by omega)
    · refine qr_al rfl rfl (w := ?_)
      refine qr_il rfl rfl (w := ?_)
      refine qr_callP rfl (sLR_sizeFor h hn hS) (qrcv1 kd_0) (w := ?_)
      refine qr_is4 rfl (w := ?_)
      refine qr_il rfl rfl (w := ?_)
      refine qr_il rfl rfl (w := ?_)
      refine qr_icge rfl (fun hcf => ?_) (fun hcf => ?_)
      · refine qr_inc3 rfl (by omega) (w := ?_)
        refine qr_goto rfl (w := ?_)
        first
          | (rw [if_pos (by assumption)]; exact ih (b + 1) b _ (by omega) (by omega))
          | (rw [if_neg (by omega)]; exact ih (b + 1) c _ (by omega) (by omega))
      · refine qr_il rfl rfl (w := ?_)
        refine qr_is2 rfl (w := ?_)
        refine qr_il rfl rfl (w := ?_)
        refine qr_is1 rfl (w := ?_)
        refine qr_inc3 rfl (by omega) (w := ?_)
        refine qr_goto rfl (w := ?_)
        first
          | (rw [if_pos (by assumption)]; exact ih (b + 1) b _ (by omega) (by omega))
          | (rw [if_neg (by omega)]; exact ih (b + 1) c _ (by omega) (by omega))
theorem sLR_bestBound (h : qE r) {rs vs : List Int} {pk bd : Int} {ss : List (List Int)} (hn : qSc m 144 rs vs pk ss.length bd) (hS : qSh m ss) : qP m_LR_bestBound [qK 0, none, none, none, none] (qT0, m, r) (qI (qBb (qSz rs ss) 9 2 1)) := by
  refine qr_const rfl (w := ?_)
  refine qr_is1 rfl (w := ?_)
  refine qr_al rfl rfl (w := ?_)
  refine qr_il rfl rfl (w := ?_)
  refine qr_callP rfl (sLR_sizeFor h hn hS) (qrcv1 kd_0) (w := ?_)
  refine qr_is2 rfl (w := ?_)
  refine qr_const rfl (w := ?_)
  refine qr_is3 rfl (w := ?_)
  exact sLR_bestBound_loop h hn hS 9 2 1 none (by omega) (by omega)
/-- the most like record, over k records from i on, the best and the most so far -/
def qLk (rs : List Int) (ss : List (List Int)) (x : Int) : Nat → Nat → Int → Int → Int
  | 0, _, b, _ => b
  | k + 1, i, b, n => if (i : Int) ≠ x ∧ qAt rs i ≠ -9 ∧ n < qIc (qGf ss (qAt rs x)) (qGf ss (qAt rs i)) then qLk rs ss x k (i + 1) i (qIc (qGf ss (qAt rs x)) (qGf ss (qAt rs i))) else qLk rs ss x k (i + 1) b n
theorem sLR_like_loop (h : qE r) {rs vs : List Int} {pk bd : Int} {ss : List (List Int)} (hn : qSc m 144 rs vs pk ss.length bd) (hS : qSh m ss) {x : Int} (hR : ∀ i : Int, qAt rs i < ss.length) : ∀ (k i : Nat) (b n : Int) (y : qA), i + k = rs.length → qP2 m_LR_like 28 [qK 0, qI x, qK (qFa (qAt rs x)), qI b, qI n, qI i, y] (qT0, m, r) (qI (qLk rs ss x k i b n)) := by
  have e2 := hn.2.2.1
  have e3 := hn.2.2.2.1
  have e4 := hn.2.2.2.2.1
  have h30 := hn.2.2.2.2.2.1
  have h40 := hS.1
  have hx := hR x
  intro k
  induction k with
  | zero =>
    intro i b n y hik
    unfold qP2
    refine qr_il rfl rfl (w := ?_)
    refine qr_al rfl rfl (w := ?_)
    refine qr_gr rfl kd_0 (hr := (rf_7_6 h)) (w := ?_)
    refine qr_callP rfl (sState_recordsRead (kState h) hn) (qrcv1 kd_144) (w := ?_)
    refine qr_icge rfl (fun hc => ?_) (fun hc => ?_)
    · refine qr_il rfl rfl (w := ?_)
      refine qW_ireturn rfl ?_
      exact ⟨rfl, rfl⟩
    · exact absurd hc (by omega)
  | succ k ih =>
    intro i b n y hik
    have hi := hR i
    unfold qP2
    simp only [qLk]
    refine qr_il rfl rfl (w := ?_)
    refine qr_al rfl rfl (w := ?_)
    refine qr_gr rfl kd_0 (hr := (rf_7_6 h)) (w := ?_)
    refine qr_callP rfl (sState_recordsRead (kState h) hn) (qrcv1 kd_144) (w := ?_)
    refine qr_icge rfl (fun hc => ?_) (fun hc => ?_)
    · exact absurd hc (by omega)
    · refine qr_il rfl rfl (w := ?_)
      refine qr_il rfl rfl (w := ?_)
      refine qr_iceq rfl (fun hcf => ?_) (fun hcf => ?_)
      · refine qr_inc5 rfl (by omega) (w := ?_)
        refine qr_goto rfl (w := ?_)
        simp only [decide_eq_true_eq, decide_eq_false_iff_not, ne_eq, Decidable.not_not] at *
        first
          | (rw [if_pos ⟨hcf, hcff, hcfff⟩]; exact ih (i + 1) _ _ _ (by omega))
          | (rw [if_neg (fun e => by omega)]; exact ih (i + 1) _ _ _ (by omega))
      · refine qr_al rfl rfl (w := ?_)
        refine qr_gr rfl kd_0 (hr := (rf_7_6 h)) (w := ?_)
        refine qr_il rfl rfl (w := ?_)
        refine qr_callP rfl (sState_has (kState h) hn) (qrcv1 kd_144) (w := ?_)
        refine qr_ifeqB rfl (fun hcff => ?_) (fun hcff => ?_)
        · refine qr_inc5 rfl (by omega) (w := ?_)
          refine qr_goto rfl (w := ?_)
          simp only [decide_eq_true_eq, decide_eq_false_iff_not, ne_eq, Decidable.not_not] at *
          first
            | (rw [if_pos ⟨hcf, hcff, hcfff⟩]; exact ih (i + 1) _ _ _ (by omega))
            | (rw [if_neg (fun e => by omega)]; exact ih (i + 1) _ _ _ (by omega))
        · refine qr_al rfl rfl (w := ?_)
          refine qr_al rfl rfl (w := ?_)
          refine qr_il rfl rfl (w := ?_)
          refine qr_callP rfl (sLR_formOf h hn hS) (qrcv1 kd_0) (w := ?_)
          refine qr_callP rfl (sForm_leavesInCommon (qFa_k h (qAt rs x)) (qFa_c (s := qAt rs x) hS (by omega)) (qFa_k h (qAt rs i)) (qFa_c (s := qAt rs i) hS (by omega))) (qrcv1 (qFa_k h (qAt rs x)).1) (w := ?_)
          refine qr_is6 rfl (w := ?_)
          refine qr_il rfl rfl (w := ?_)
          refine qr_il rfl rfl (w := ?_)
          refine qr_icle rfl (fun hcfff => ?_) (fun hcfff => ?_)
          · refine qr_inc5 rfl (by omega) (w := ?_)
            refine qr_goto rfl (w := ?_)
            simp only [decide_eq_true_eq, decide_eq_false_iff_not, ne_eq, Decidable.not_not] at *
            first
              | (rw [if_pos ⟨hcf, hcff, hcfff⟩]; exact ih (i + 1) _ _ _ (by omega))
              | (rw [if_neg (fun e => by omega)]; exact ih (i + 1) _ _ _ (by omega))
          · refine qr_il rfl rfl (w := ?_)
            refine qr_is4 rfl (w := ?_)
            refine qr_il rfl rfl (w := ?_)
            refine qr_is3 rfl (w := ?_)
            refine qr_inc5 rfl (by omega) (w := ?_)
            refine qr_goto rfl (w := ?_)
            simp only [decide_eq_true_eq, decide_eq_false_iff_not, ne_eq, Decidable.not_not] at *
            first
              | (rw [if_pos ⟨hcf, hcff, hcfff⟩]; exact ih (i + 1) _ _ _ (by omega))
              | (rw [if_neg (fun e => by omega)]; exact ih (i + 1) _ _ _ (by omega))
def qLike (rs : List Int) (ss : List (List Int)) (x : Int) : Int := if qAt rs x ≠ -9 then qLk rs ss x rs.length 0 (-9) (-1) else -1
theorem sLR_like (h : qE r) {rs vs : List Int} {pk bd : Int} {ss : List (List Int)} (hn : qSc m 144 rs vs pk ss.length bd) (hS : qSh m ss) {x : Int} (hR : ∀ i : Int, qAt rs i < ss.length) : qP m_LR_like [qK 0, qI x, none, none, none, none, none] (qT0, m, r) (qI (qLike rs ss x)) := by
  unfold qLike
  refine qr_al rfl rfl (w := ?_)
  refine qr_gr rfl kd_0 (hr := (rf_7_6 h)) (w := ?_)
  refine qr_il rfl rfl (w := ?_)
  refine qr_callP rfl (sState_has (kState h) hn) (qrcv1 kd_144) (w := ?_)
  refine qr_ifneB rfl (fun hc => ?_) (fun hc => ?_)
  · refine qr_al rfl rfl (w := ?_)
    refine qr_il rfl rfl (w := ?_)
    refine qr_callP rfl (sLR_formOf h hn hS) (qrcv1 kd_0) (w := ?_)
    refine qr_as2 rfl (w := ?_)
    refine qr_const rfl (w := ?_)
    refine qr_is3 rfl (w := ?_)
    refine qr_const rfl (w := ?_)
    refine qr_is4 rfl (w := ?_)
    refine qr_const rfl (w := ?_)
    refine qr_is5 rfl (w := ?_)
    rw [if_pos (of_decide_eq_true hc)]
    exact sLR_like_loop h hn hS hR rs.length 0 (-9) (-1) none (by omega)
  · refine qr_const rfl (w := ?_)
    refine qW_ireturn rfl ?_
    exact ⟨by rw [if_neg (of_decide_eq_false hc)], rfl⟩
