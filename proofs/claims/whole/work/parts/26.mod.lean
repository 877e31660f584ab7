/-! The reference: its cells (176: itself; 177 now, 178 past, 179 before, 180 text, 181 written, 182 open, 183 letters, 184 insides, 185 values, 186 inner, 187 row), a block of numbers against a state, what it reads of it -/
variable {m : Nat → Int → Int} {r : Nat → Int → Option Nat}
theorem kd_177 : qT0[177]? = some (1, 1294) := by decide +kernel
theorem kd_178 : qT0[178]? = some (1, 6470) := by decide +kernel
theorem kd_179 : qT0[179]? = some (1, 1294) := by decide +kernel
theorem kd_180 : qT0[180]? = some (1, 80) := by decide +kernel
theorem kd_181 : qT0[181]? = some (1, 160) := by decide +kernel
theorem kd_182 : qT0[182]? = some (1, 8) := by decide +kernel
theorem kd_183 : qT0[183]? = some (1, 40) := by decide +kernel
theorem kd_184 : qT0[184]? = some (1, 40) := by decide +kernel
theorem kd_185 : qT0[185]? = some (1, 40) := by decide +kernel
theorem kd_186 : qT0[186]? = some (1, 5) := by decide +kernel
theorem kd_187 : qT0[187]? = some (1, 20) := by decide +kernel
theorem rf_8_0 (h : qE r) : r 176 0 = some 177 := qE_ref h (by decide +kernel)
theorem rf_8_1 (h : qE r) : r 176 1 = some 178 := qE_ref h (by decide +kernel)
theorem rf_8_3 (h : qE r) : r 176 3 = some 179 := qE_ref h (by decide +kernel)
theorem rf_8_4 (h : qE r) : r 176 4 = some 180 := qE_ref h (by decide +kernel)
theorem rf_8_6 (h : qE r) : r 176 6 = some 181 := qE_ref h (by decide +kernel)
theorem rf_8_8 (h : qE r) : r 176 8 = some 182 := qE_ref h (by decide +kernel)
theorem rf_8_9 (h : qE r) : r 176 9 = some 183 := qE_ref h (by decide +kernel)
theorem rf_8_10 (h : qE r) : r 176 10 = some 184 := qE_ref h (by decide +kernel)
theorem rf_8_11 (h : qE r) : r 176 11 = some 185 := qE_ref h (by decide +kernel)
theorem rf_8_13 (h : qE r) : r 176 13 = some 186 := qE_ref h (by decide +kernel)
theorem rf_8_17 (h : qE r) : r 176 17 = some 187 := qE_ref h (by decide +kernel)
/-- a block of numbers holds a state -/
def qMb (g : Int → Int) (a : qAS) : Prop :=
  (g 0 = a.2.2.2.length ∧ g 1 = a.1.length ∧ g 2 = a.2.1.length ∧ g 3 = a.2.2.1) ∧
  (∀ p : Int, 0 ≤ p → p < a.1.length → g (4 + 2 * p) = qLe a.1 p ∧ g (4 + 2 * p + 1) = qOu a.1 p) ∧
  (∀ s : Int, 0 ≤ s → s < a.2.1.length → g (124 + 21 * s) = (qGf a.2.1 s).length ∧ ∀ k : Int, 0 ≤ k → k < (qGf a.2.1 s).length → g (124 + 21 * s + 1 + k) = qAt (qGf a.2.1 s) k) ∧
  (∀ i : Int, 0 ≤ i → i < a.2.2.2.length → g (964 + 11 * i) = qAt (qRs a) i ∧ ∀ j : Int, 0 ≤ j → j < (qGet a i).2.length → g (964 + 11 * i + 1 + j) = qVv a i j)
def qMl (a : qAS) : Prop := a.1.length ≤ 60 ∧ a.2.1.length ≤ 40 ∧ (∀ s, (qGf a.2.1 s).length ≤ 20) ∧ a.2.2.2.length ≤ 30 ∧ ∀ i, (qGet a i).2.length ≤ 10
theorem qMb_eq {g g' : Int → Int} {a : qAS} (hB : qMb g a) (hl : qMl a) (e : ∀ j : Int, 0 ≤ j → j < 1294 → g' j = g j) : qMb g' a := by
  obtain ⟨⟨b0, b1, b2, b3⟩, bp, bs, br⟩ := hB
  obtain ⟨l1, l2, l3, l4, l5⟩ := hl
  refine ⟨⟨by rw [e _ (by omega) (by omega)]; exact b0, by rw [e _ (by omega) (by omega)]; exact b1, by rw [e _ (by omega) (by omega)]; exact b2, by rw [e _ (by omega) (by omega)]; exact b3⟩, fun p h0 h1 => ⟨?_, ?_⟩, fun s h0 h1 => ⟨?_, fun k g0 g1 => ?_⟩, fun i h0 h1 => ⟨?_, fun j g0 g1 => ?_⟩⟩
  · rw [e _ (by omega) (by omega)]; exact (bp p h0 h1).1
  · rw [e _ (by omega) (by omega)]; exact (bp p h0 h1).2
  · rw [e _ (by omega) (by omega)]; exact (bs s h0 h1).1
  · have := l3 s
    rw [e _ (by omega) (by omega)]; exact (bs s h0 h1).2 k g0 g1
  · rw [e _ (by omega) (by omega)]; exact (br i h0 h1).1
  · have := l5 i
    rw [e _ (by omega) (by omega)]; exact (br i h0 h1).2 j g0 g1
theorem qMl_of {a : qAS} (h : qWA a) : qMl a := by
  refine ⟨h.1.1, h.2.1, fun s => (qWs_gf h s).1, h.2.2.2.2.1, fun i => ?_⟩
  unfold qGet
  rw [List.getD_eq_getElem?_getD]
  by_cases hi : i.toNat < a.2.2.2.length
  · rw [List.getElem?_eq_getElem hi]
    exact (h.2.2.2.2.2 _ (List.getElem_mem _)).1
  · rw [List.getElem?_eq_none (by omega)]
    exact Nat.zero_le _
theorem qW2 {b pc : Nat} {L : List qA} {σ : qM} {v v' : qA} (h : qP2 b pc L σ v) (e : v = v') : qW b pc L [] σ (fun x σ' => x = v' ∧ σ' = σ) := e ▸ h
theorem qSm_list {l : List Int} {F : List Int → Int} {g : Int → Int} (h0 : F [] = 0) (h1 : ∀ x t, F (x :: t) = g x + F t) : ∀ k i : Nat, i + k = l.length → qSm k i (fun j => g (qAt l j)) = F (l.drop i) := by
  intro k
  induction k with
  | zero =>
    intro i hik
    rw [qdrop_nil (by omega), h0]
    rfl
  | succ k ih =>
    intro i hik
    rw [qdrop (by omega), h1, ← ih (i + 1) (by omega), ← qAt_lt (by omega)]
    rfl
theorem qSm_list0 (l : List Int) {F : List Int → Int} (g : Int → Int) (h0 : F [] = 0) (h1 : ∀ x t, F (x :: t) = g x + F t) : qSm l.length 0 (fun j => g (qAt l j)) = F l := by
  have := qSm_list (l := l) h0 h1 l.length 0 (by omega)
  rw [List.drop_zero] at this
  exact this
/-- sums over records, of what their shape gives -/
def qRm (g : Int → Int) : List Int → Int
  | [] => 0
  | x :: t => (if x = -9 then 0 else g x) + qRm g t
theorem qSm_add (a b : Nat → Int) : ∀ k i : Nat, qSm k i (fun j => a j + b j) = qSm k i a + qSm k i b := by
  intro k
  induction k with
  | zero => intro i; rfl
  | succ k ih =>
    intro i
    simp only [qSm]
    rw [ih (i + 1)]
    omega
theorem qSm_zero : ∀ k i : Nat, qSm k i (fun _ => 0) = 0 := by
  intro k
  induction k with
  | zero => intro i; rfl
  | succ k ih =>
    intro i
    simp only [qSm]
    rw [ih (i + 1)]
    rfl
theorem qSm_delta (g : Int → Int) (x : Int) : ∀ k i : Nat, qSm k i (fun j => if x = j then g j else 0) = if (i : Int) ≤ x ∧ x < i + k then g x else 0 := by
  intro k
  induction k with
  | zero =>
    intro i
    rw [if_neg (by omega)]
    rfl
  | succ k ih =>
    intro i
    simp only [qSm]
    rw [ih (i + 1)]
    by_cases h : x = i
    · rw [if_pos h, if_neg (by omega), if_pos (by omega), h]
      omega
    · rw [if_neg h]
      by_cases h2 : ((i + 1 : Nat) : Int) ≤ x ∧ x < (i + 1 : Nat) + k
      · rw [if_pos h2, if_pos (by omega)]
        omega
      · rw [if_neg h2, if_neg (by omega)]
        rfl
/-- record by record, or shape by shape -/
theorem qRm_ex (g : Int → Int) (n : Nat) : ∀ rs : List Int, (∀ x ∈ rs, x = -9 ∨ (0 ≤ x ∧ x < n)) → qRm g rs = qSm n 0 (fun i => qCt rs i * g i) := by
  intro rs
  induction rs with
  | nil =>
    intro _
    simp only [qCt, Int.zero_mul, qRm]
    exact (qSm_zero n 0).symm
  | cons x t ih =>
    intro h
    have e : (fun i : Nat => qCt (x :: t) i * g i) = fun i : Nat => (if x = i then g i else 0) + qCt t i * g i := by
      funext i
      simp only [qCt]
      split
      · rw [Int.add_mul, Int.one_mul]
      · rw [Int.add_mul, Int.zero_mul]
    rw [e, qSm_add, qSm_delta g x n 0, ← ih (fun y hy => h y (List.mem_cons_of_mem _ hy))]
    simp only [qRm]
    rcases h x List.mem_cons_self with h9 | h9
    · rw [if_pos h9, if_neg (by omega)]
    · rw [if_neg (by omega), if_pos (by omega)]
theorem qRm_sm (g : Int → Int) (rs : List Int) : qSm rs.length 0 (fun i => if qAt rs i = -9 then 0 else g (qAt rs i)) = qRm g rs := qSm_list0 rs (fun x => if x = -9 then 0 else g x) rfl (fun _ _ => rfl)
theorem mIn {σ : qM} {v lo hi : Int} : qP m_Mo_in [qI v, qI lo, qI hi] σ (qI (qbi (decide (lo ≤ v ∧ v ≤ hi)))) := by
  obtain ⟨T, m, r⟩ := σ
  refine qr_il rfl rfl (w := ?_)
  refine qr_il rfl rfl (w := ?_)
  refine qr_iclt rfl (fun hc => ?_) (fun hc => ?_)
  · refine qr_const rfl (w := ?_)
    refine qW_zreturn rfl (by first | exact Or.inl rfl | exact Or.inr rfl | (simp only [qbi]; split <;> simp)) ?_
    refine ⟨congrArg qI ?_, rfl⟩
    simp only [qbi]
    first | (rw [if_pos (decide_eq_true (by omega))]; done) | (rw [if_neg (fun h9 => by have := of_decide_eq_true h9; omega)]; done)
  · refine qr_il rfl rfl (w := ?_)
    refine qr_il rfl rfl (w := ?_)
    refine qr_icgt rfl (fun hcf => ?_) (fun hcf => ?_)
    · refine qr_const rfl (w := ?_)
      refine qW_zreturn rfl (by first | exact Or.inl rfl | exact Or.inr rfl | (simp only [qbi]; split <;> simp)) ?_
      refine ⟨congrArg qI ?_, rfl⟩
      simp only [qbi]
      first | (rw [if_pos (decide_eq_true (by omega))]; done) | (rw [if_neg (fun h9 => by have := of_decide_eq_true h9; omega)]; done)
    · refine qr_const rfl (w := ?_)
      refine qr_goto rfl (w := ?_)
      refine qW_zreturn rfl (by first | exact Or.inl rfl | exact Or.inr rfl | (simp only [qbi]; split <;> simp)) ?_
      refine ⟨congrArg qI ?_, rfl⟩
      simp only [qbi]
      first | (rw [if_pos (decide_eq_true (by omega))]; done) | (rw [if_neg (fun h9 => by have := of_decide_eq_true h9; omega)]; done)
theorem qGf_ub {a : qAS} (hl : qMl a) (s : Int) : (qGf a.2.1 s).length ≤ 20 := hl.2.2.1 s
theorem mIsPath (h : qE r) {a : qAS} (hB : qMb (m 177) a) (hl : qMl a) {p : Int} : qP m_Mo_isPath [qK 176, qI p] (qT0, m, r) (qI (qbi (decide (0 ≤ p ∧ p < a.1.length)))) := by
  obtain ⟨⟨b0, b1, b2, b3⟩, bp, bs, br⟩ := id hB
  obtain ⟨l1, l2, l3, l4, l5⟩ := id hl
  have hrl := qRs_len a
  refine qr_il rfl rfl (w := ?_)
  refine qr_const rfl (w := ?_)
  refine qr_al rfl rfl (w := ?_)
  refine qr_gr rfl kd_176 (hr := (rf_8_0 h)) (w := ?_)
  refine qr_const rfl (w := ?_)
  refine qr_ia rfl kd_177 (by omega) (w := ?_)
  refine qr_const rfl (w := ?_)
  refine qr_sub rfl (by omega) (w := ?_)
  refine qr_callP rfl mIn rfl (w := ?_)
  refine qW_zreturn rfl (by simp only [qbi]; split <;> simp) ?_
  refine ⟨congrArg (fun b => qI (qbi b)) (decide_eq_decide.mpr ?_), rfl⟩
  omega
theorem mIsShape (h : qE r) {a : qAS} (hB : qMb (m 177) a) (hl : qMl a) {p : Int} : qP m_Mo_isShape [qK 176, qI p] (qT0, m, r) (qI (qbi (decide (0 ≤ p ∧ p < a.2.1.length)))) := by
  obtain ⟨⟨b0, b1, b2, b3⟩, bp, bs, br⟩ := id hB
  obtain ⟨l1, l2, l3, l4, l5⟩ := id hl
  have hrl := qRs_len a
  refine qr_il rfl rfl (w := ?_)
  refine qr_const rfl (w := ?_)
  refine qr_al rfl rfl (w := ?_)
  refine qr_gr rfl kd_176 (hr := (rf_8_0 h)) (w := ?_)
  refine qr_const rfl (w := ?_)
  refine qr_ia rfl kd_177 (by omega) (w := ?_)
  refine qr_const rfl (w := ?_)
  refine qr_sub rfl (by omega) (w := ?_)
  refine qr_callP rfl mIn rfl (w := ?_)
  refine qW_zreturn rfl (by simp only [qbi]; split <;> simp) ?_
  refine ⟨congrArg (fun b => qI (qbi b)) (decide_eq_decide.mpr ?_), rfl⟩
  omega
theorem mShapeOf (h : qE r) {a : qAS} (hB : qMb (m 177) a) (hl : qMl a) {i : Int} (hi : 0 ≤ i ∧ i < a.2.2.2.length) : qP m_Mo_shapeOf [qK 176, qI i] (qT0, m, r) (qI (qAt (qRs a) i)) := by
  obtain ⟨⟨b0, b1, b2, b3⟩, bp, bs, br⟩ := id hB
  obtain ⟨l1, l2, l3, l4, l5⟩ := id hl
  have hrl := qRs_len a
  refine qr_al rfl rfl (w := ?_)
  refine qr_gr rfl kd_176 (hr := (rf_8_0 h)) (w := ?_)
  refine qr_const rfl (w := ?_)
  refine qr_const rfl (w := ?_)
  refine qr_il rfl rfl (w := ?_)
  refine qr_mul rfl (by omega) (w := ?_)
  refine qr_add rfl (by omega) (w := ?_)
  refine qr_ia rfl kd_177 (by omega) (w := ?_)
  refine qW_ireturn rfl ?_
  exact ⟨congrArg qI (br i hi.1 hi.2).1, rfl⟩
theorem qHas_iff (a : qAS) (i : Int) (hi : ¬ (0 ≤ i ∧ i < a.2.2.2.length)) : qAt (qRs a) i = -9 := by
  unfold qAt
  rw [qRs_len, if_neg hi]
theorem mIsRecord (h : qE r) {a : qAS} (hB : qMb (m 177) a) (hl : qMl a) {i : Int} : qP m_Mo_isRecord [qK 176, qI i] (qT0, m, r) (qI (qbi (decide (qAt (qRs a) i ≠ -9)))) := by
  obtain ⟨⟨b0, b1, b2, b3⟩, bp, bs, br⟩ := id hB
  obtain ⟨l1, l2, l3, l4, l5⟩ := id hl
  have hrl := qRs_len a
  refine qr_il rfl rfl (w := ?_)
  refine qr_const rfl (w := ?_)
  refine qr_al rfl rfl (w := ?_)
  refine qr_gr rfl kd_176 (hr := (rf_8_0 h)) (w := ?_)
  refine qr_const rfl (w := ?_)
  refine qr_ia rfl kd_177 (by omega) (w := ?_)
  refine qr_const rfl (w := ?_)
  refine qr_sub rfl (by omega) (w := ?_)
  refine qr_callP rfl mIn rfl (w := ?_)
  refine qr_ifeqB rfl (fun hc => ?_) (fun hc => ?_)
  · refine qr_const rfl (w := ?_)
    refine qW_zreturn rfl (by first | exact Or.inl rfl | exact Or.inr rfl | (simp only [qbi]; split <;> simp)) ?_
    refine ⟨congrArg qI ?_, rfl⟩
    have hh : qAt (qRs a) i = -9 → ¬ (decide (qAt (qRs a) i ≠ -9) = true) := fun e h9 => of_decide_eq_true h9 e
    simp only [qbi]
    first
      | (rw [if_neg (hh hcf)]; done)
      | (rw [if_pos (decide_eq_true hcf)]; done)
      | (have hd0 := of_decide_eq_false hc
         rw [if_neg (hh (qHas_iff a i (by omega)))])
  · have hdd := of_decide_eq_true hc
    refine qr_al rfl rfl (w := ?_)
    refine qr_il rfl rfl (w := ?_)
    refine qr_callP rfl (mShapeOf (i := i) h hB hl (by omega)) (qrcv1 kd_176) (w := ?_)
    refine qr_const rfl (w := ?_)
    refine qr_iceq rfl (fun hcf => ?_) (fun hcf => ?_)
    · refine qr_const rfl (w := ?_)
      refine qW_zreturn rfl (by first | exact Or.inl rfl | exact Or.inr rfl | (simp only [qbi]; split <;> simp)) ?_
      refine ⟨congrArg qI ?_, rfl⟩
      have hh : qAt (qRs a) i = -9 → ¬ (decide (qAt (qRs a) i ≠ -9) = true) := fun e h9 => of_decide_eq_true h9 e
      simp only [qbi]
      first
        | (rw [if_neg (hh hcf)]; done)
        | (rw [if_pos (decide_eq_true hcf)]; done)
        | (have hd0 := of_decide_eq_false hc
           rw [if_neg (hh (qHas_iff a i (by omega)))])
    · refine qr_const rfl (w := ?_)
      refine qr_goto rfl (w := ?_)
      refine qW_zreturn rfl (by first | exact Or.inl rfl | exact Or.inr rfl | (simp only [qbi]; split <;> simp)) ?_
      refine ⟨congrArg qI ?_, rfl⟩
      have hh : qAt (qRs a) i = -9 → ¬ (decide (qAt (qRs a) i ≠ -9) = true) := fun e h9 => of_decide_eq_true h9 e
      simp only [qbi]
      first
        | (rw [if_neg (hh hcf)]; done)
        | (rw [if_pos (decide_eq_true hcf)]; done)
        | (have hd0 := of_decide_eq_false hc
           rw [if_neg (hh (qHas_iff a i (by omega)))])
theorem mValueOf (h : qE r) {a : qAS} (hB : qMb (m 177) a) (hl : qMl a) {i j : Int} (hi : 0 ≤ i ∧ i < a.2.2.2.length) (hj : 0 ≤ j ∧ j < (qGet a i).2.length) : qP m_Mo_valueOf [qK 176, qI i, qI j] (qT0, m, r) (qI (qVv a i j)) := by
  obtain ⟨⟨b0, b1, b2, b3⟩, bp, bs, br⟩ := id hB
  obtain ⟨l1, l2, l3, l4, l5⟩ := id hl
  have hrl := qRs_len a
  have h5 := l5 i
  refine qr_al rfl rfl (w := ?_)
  refine qr_gr rfl kd_176 (hr := (rf_8_0 h)) (w := ?_)
  refine qr_const rfl (w := ?_)
  refine qr_const rfl (w := ?_)
  refine qr_il rfl rfl (w := ?_)
  refine qr_mul rfl (by omega) (w := ?_)
  refine qr_add rfl (by omega) (w := ?_)
  refine qr_const rfl (w := ?_)
  refine qr_add rfl (by omega) (w := ?_)
  refine qr_il rfl rfl (w := ?_)
  refine qr_add rfl (by omega) (w := ?_)
  refine qr_ia rfl kd_177 (by omega) (w := ?_)
  refine qW_ireturn rfl ?_
  exact ⟨congrArg qI ((br i hi.1 hi.2).2 j hj.1 hj.2), rfl⟩
theorem mLetterOf (h : qE r) {a : qAS} (hB : qMb (m 177) a) (hl : qMl a) {p : Int} (hp : 0 ≤ p ∧ p < a.1.length) : qP m_Mo_letterOf [qK 176, qI p] (qT0, m, r) (qI (qLe a.1 p)) := by
  obtain ⟨⟨b0, b1, b2, b3⟩, bp, bs, br⟩ := id hB
  obtain ⟨l1, l2, l3, l4, l5⟩ := id hl
  have hrl := qRs_len a
  refine qr_al rfl rfl (w := ?_)
  refine qr_gr rfl kd_176 (hr := (rf_8_0 h)) (w := ?_)
  refine qr_const rfl (w := ?_)
  refine qr_const rfl (w := ?_)
  refine qr_il rfl rfl (w := ?_)
  refine qr_mul rfl (by omega) (w := ?_)
  refine qr_add rfl (by omega) (w := ?_)
  refine qr_ia rfl kd_177 (by omega) (w := ?_)
  refine qW_ireturn rfl ?_
  exact ⟨congrArg qI (bp p hp.1 hp.2).1, rfl⟩
theorem mInnerOf (h : qE r) {a : qAS} (hB : qMb (m 177) a) (hl : qMl a) {p : Int} (hp : 0 ≤ p ∧ p < a.1.length) : qP m_Mo_innerOf [qK 176, qI p] (qT0, m, r) (qI (qOu a.1 p)) := by
  obtain ⟨⟨b0, b1, b2, b3⟩, bp, bs, br⟩ := id hB
  obtain ⟨l1, l2, l3, l4, l5⟩ := id hl
  have hrl := qRs_len a
  refine qr_al rfl rfl (w := ?_)
  refine qr_gr rfl kd_176 (hr := (rf_8_0 h)) (w := ?_)
  refine qr_const rfl (w := ?_)
  refine qr_const rfl (w := ?_)
  refine qr_il rfl rfl (w := ?_)
  refine qr_mul rfl (by omega) (w := ?_)
  refine qr_add rfl (by omega) (w := ?_)
  refine qr_const rfl (w := ?_)
  refine qr_add rfl (by omega) (w := ?_)
  refine qr_ia rfl kd_177 (by omega) (w := ?_)
  refine qW_ireturn rfl ?_
  exact ⟨congrArg qI (bp p hp.1 hp.2).2, rfl⟩
theorem mFieldsOf (h : qE r) {a : qAS} (hB : qMb (m 177) a) (hl : qMl a) {s : Int} (hs : 0 ≤ s ∧ s < a.2.1.length) : qP m_Mo_fieldsOf [qK 176, qI s] (qT0, m, r) (qI (qGf a.2.1 s).length) := by
  obtain ⟨⟨b0, b1, b2, b3⟩, bp, bs, br⟩ := id hB
  obtain ⟨l1, l2, l3, l4, l5⟩ := id hl
  have hrl := qRs_len a
  refine qr_al rfl rfl (w := ?_)
  refine qr_gr rfl kd_176 (hr := (rf_8_0 h)) (w := ?_)
  refine qr_const rfl (w := ?_)
  refine qr_const rfl (w := ?_)
  refine qr_il rfl rfl (w := ?_)
  refine qr_mul rfl (by omega) (w := ?_)
  refine qr_add rfl (by omega) (w := ?_)
  refine qr_ia rfl kd_177 (by omega) (w := ?_)
  refine qW_ireturn rfl ?_
  exact ⟨congrArg qI (bs s hs.1 hs.2).1, rfl⟩
theorem mFieldOf (h : qE r) {a : qAS} (hB : qMb (m 177) a) (hl : qMl a) {s k : Int} (hs : 0 ≤ s ∧ s < a.2.1.length) (hk : 0 ≤ k ∧ k < (qGf a.2.1 s).length) : qP m_Mo_fieldOf [qK 176, qI s, qI k] (qT0, m, r) (qI (qAt (qGf a.2.1 s) k)) := by
  obtain ⟨⟨b0, b1, b2, b3⟩, bp, bs, br⟩ := id hB
  obtain ⟨l1, l2, l3, l4, l5⟩ := id hl
  have hrl := qRs_len a
  have h3 := l3 s
  refine qr_al rfl rfl (w := ?_)
  refine qr_gr rfl kd_176 (hr := (rf_8_0 h)) (w := ?_)
  refine qr_const rfl (w := ?_)
  refine qr_const rfl (w := ?_)
  refine qr_il rfl rfl (w := ?_)
  refine qr_mul rfl (by omega) (w := ?_)
  refine qr_add rfl (by omega) (w := ?_)
  refine qr_const rfl (w := ?_)
  refine qr_add rfl (by omega) (w := ?_)
  refine qr_il rfl rfl (w := ?_)
  refine qr_add rfl (by omega) (w := ?_)
  refine qr_ia rfl kd_177 (by omega) (w := ?_)
  refine qW_ireturn rfl ?_
  exact ⟨congrArg qI ((bs s hs.1 hs.2).2 k hk.1 hk.2), rfl⟩
theorem mLeavesOf_loop (h : qE r) {a : qAS} (hB : qMb (m 177) a) (hl : qMl a) {s : Int} (hs : 0 ≤ s ∧ s < a.2.1.length) : ∀ (k i : Nat) (c : Int), i + k = (qGf a.2.1 s).length → 0 ≤ c → c ≤ i → qP2 m_Mo_leavesOf 4 [qK 176, qI s, qI c, qI i] (qT0, m, r) (qI (c + qSm k i (fun i => if qAt (qGf a.2.1 s) i < 100 then 1 else 0))) := by
  obtain ⟨⟨b0, b1, b2, b3⟩, bp, bs, br⟩ := id hB
  obtain ⟨l1, l2, l3, l4, l5⟩ := id hl
  have hrl := qRs_len a
  have h3 := l3 s
  intro k
  induction k with
  | zero =>
    intro i c hik hc0 hc1
    unfold qP2
    refine qr_il rfl rfl (w := ?_)
    refine qr_al rfl rfl (w := ?_)
    refine qr_il rfl rfl (w := ?_)
    refine qr_callP rfl (mFieldsOf (s := s) h hB hl (by omega)) (qrcv1 kd_176) (w := ?_)
    refine qr_icge rfl (fun hc => ?_) (fun hc => ?_)
    · refine qr_il rfl rfl (w := ?_)
      refine qW_ireturn rfl ?_
      exact ⟨by simp [qSm], rfl⟩
    · exact absurd hc (by omega)
  | succ k ih =>
    intro i c hik hc0 hc1
    unfold qP2
    simp only [qSm]
    refine qr_il rfl rfl (w := ?_)
    refine qr_al rfl rfl (w := ?_)
    refine qr_il rfl rfl (w := ?_)
    refine qr_callP rfl (mFieldsOf (s := s) h hB hl (by omega)) (qrcv1 kd_176) (w := ?_)
    refine qr_icge rfl (fun hc => ?_) (fun hc => ?_)
    · exact absurd hc (by omega)
    · refine qr_il rfl rfl (w := ?_)
      refine qr_al rfl rfl (w := ?_)
      refine qr_il rfl rfl (w := ?_)
      refine qr_il rfl rfl (w := ?_)
      refine qr_callP rfl (mFieldOf (s := s) (k := i) h hB hl (by omega) (by omega)) (qrcv1 kd_176) (w := ?_)
      refine qr_const rfl (w := ?_)
      refine qr_icge rfl (fun hcf => ?_) (fun hcf => ?_)
      · refine qr_const rfl (w := ?_)
        refine qr_add rfl (by omega) (w := ?_)
        refine qr_is2 rfl (w := ?_)
        refine qr_inc3 rfl (by omega) (w := ?_)
        refine qr_goto rfl (w := ?_)
        refine qW2 (ih (i + 1) _ (by omega) (by omega) (by omega)) (congrArg qI ?_)
        first
          | omega
          | (split <;> omega)
          | (split <;> split <;> omega)
      · refine qr_const rfl (w := ?_)
        refine qr_goto rfl (w := ?_)
        refine qr_add rfl (by omega) (w := ?_)
        refine qr_is2 rfl (w := ?_)
        refine qr_inc3 rfl (by omega) (w := ?_)
        refine qr_goto rfl (w := ?_)
        refine qW2 (ih (i + 1) _ (by omega) (by omega) (by omega)) (congrArg qI ?_)
        first
          | omega
          | (split <;> omega)
          | (split <;> split <;> omega)
theorem mLeavesOf (h : qE r) {a : qAS} (hB : qMb (m 177) a) (hl : qMl a) {s : Int} (hs : 0 ≤ s ∧ s < a.2.1.length) : qP m_Mo_leavesOf [qK 176, qI s, none, none] (qT0, m, r) (qI (qLv (qGf a.2.1 s))) := by
  obtain ⟨⟨b0, b1, b2, b3⟩, bp, bs, br⟩ := id hB
  obtain ⟨l1, l2, l3, l4, l5⟩ := id hl
  have hrl := qRs_len a
  refine qr_const rfl (w := ?_)
  refine qr_is2 rfl (w := ?_)
  refine qr_const rfl (w := ?_)
  refine qr_is3 rfl (w := ?_)
  refine qW2 (mLeavesOf_loop h hB hl hs (qGf a.2.1 s).length 0 0 (by omega) (by omega) (by omega)) (congrArg qI ?_)
  rw [Int.zero_add]
  exact qSm_list0 _ (fun x => if x < 100 then 1 else 0) rfl (fun _ _ => rfl)
theorem mBranchesOf (h : qE r) {a : qAS} (hB : qMb (m 177) a) (hl : qMl a) {s : Int} (hs : 0 ≤ s ∧ s < a.2.1.length) : qP m_Mo_branchesOf [qK 176, qI s] (qT0, m, r) (qI ((qGf a.2.1 s).length - qLv (qGf a.2.1 s))) := by
  obtain ⟨⟨b0, b1, b2, b3⟩, bp, bs, br⟩ := id hB
  obtain ⟨l1, l2, l3, l4, l5⟩ := id hl
  have hrl := qRs_len a
  have h3 := l3 s
  have h4 := qLv_le (qGf a.2.1 s)
  refine qr_al rfl rfl (w := ?_)
  refine qr_il rfl rfl (w := ?_)
  refine qr_callP rfl (mFieldsOf (s := s) h hB hl (by omega)) (qrcv1 kd_176) (w := ?_)
  refine qr_al rfl rfl (w := ?_)
  refine qr_il rfl rfl (w := ?_)
  refine qr_callP rfl (mLeavesOf (s := s) h hB hl (by omega)) (qrcv1 kd_176) (w := ?_)
  refine qr_sub rfl (by omega) (w := ?_)
  refine qW_ireturn rfl ?_
  exact ⟨rfl, rfl⟩
theorem mHaveOf_loop (h : qE r) {a : qAS} (hB : qMb (m 177) a) (hl : qMl a) {s : Int} : ∀ (k i : Nat) (c : Int), i + k = a.2.2.2.length → 0 ≤ c → c ≤ i → qP2 m_Mo_haveOf 4 [qK 176, qI s, qI c, qI i] (qT0, m, r) (qI (c + qSm k i (fun i => if qAt (qRs a) i = s then 1 else 0))) := by
  obtain ⟨⟨b0, b1, b2, b3⟩, bp, bs, br⟩ := id hB
  obtain ⟨l1, l2, l3, l4, l5⟩ := id hl
  have hrl := qRs_len a
  intro k
  induction k with
  | zero =>
    intro i c hik hc0 hc1
    unfold qP2
    refine qr_il rfl rfl (w := ?_)
    refine qr_al rfl rfl (w := ?_)
    refine qr_gr rfl kd_176 (hr := (rf_8_0 h)) (w := ?_)
    refine qr_const rfl (w := ?_)
    refine qr_ia rfl kd_177 (by omega) (w := ?_)
    refine qr_icge rfl (fun hc => ?_) (fun hc => ?_)
    · refine qr_il rfl rfl (w := ?_)
      refine qW_ireturn rfl ?_
      exact ⟨by simp [qSm], rfl⟩
    · exact absurd hc (by omega)
  | succ k ih =>
    intro i c hik hc0 hc1
    unfold qP2
    simp only [qSm]
    refine qr_il rfl rfl (w := ?_)
    refine qr_al rfl rfl (w := ?_)
    refine qr_gr rfl kd_176 (hr := (rf_8_0 h)) (w := ?_)
    refine qr_const rfl (w := ?_)
    refine qr_ia rfl kd_177 (by omega) (w := ?_)
    refine qr_icge rfl (fun hc => ?_) (fun hc => ?_)
    · exact absurd hc (by omega)
    · refine qr_il rfl rfl (w := ?_)
      refine qr_al rfl rfl (w := ?_)
      refine qr_il rfl rfl (w := ?_)
      refine qr_callP rfl (mShapeOf (i := i) h hB hl (by omega)) (qrcv1 kd_176) (w := ?_)
      refine qr_il rfl rfl (w := ?_)
      refine qr_icne rfl (fun hcf => ?_) (fun hcf => ?_)
      · refine qr_const rfl (w := ?_)
        refine qr_add rfl (by omega) (w := ?_)
        refine qr_is2 rfl (w := ?_)
        refine qr_inc3 rfl (by omega) (w := ?_)
        refine qr_goto rfl (w := ?_)
        refine qW2 (ih (i + 1) _ (by omega) (by omega) (by omega)) (congrArg qI ?_)
        first
          | omega
          | (split <;> omega)
          | (split <;> split <;> omega)
      · refine qr_const rfl (w := ?_)
        refine qr_goto rfl (w := ?_)
        refine qr_add rfl (by omega) (w := ?_)
        refine qr_is2 rfl (w := ?_)
        refine qr_inc3 rfl (by omega) (w := ?_)
        refine qr_goto rfl (w := ?_)
        refine qW2 (ih (i + 1) _ (by omega) (by omega) (by omega)) (congrArg qI ?_)
        first
          | omega
          | (split <;> omega)
          | (split <;> split <;> omega)
theorem mHaveOf (h : qE r) {a : qAS} (hB : qMb (m 177) a) (hl : qMl a) {s : Int} : qP m_Mo_haveOf [qK 176, qI s, none, none] (qT0, m, r) (qI (qCt (qRs a) s)) := by
  obtain ⟨⟨b0, b1, b2, b3⟩, bp, bs, br⟩ := id hB
  obtain ⟨l1, l2, l3, l4, l5⟩ := id hl
  have hrl := qRs_len a
  refine qr_const rfl (w := ?_)
  refine qr_is2 rfl (w := ?_)
  refine qr_const rfl (w := ?_)
  refine qr_is3 rfl (w := ?_)
  refine qW2 (mHaveOf_loop h hB hl a.2.2.2.length 0 0 (by omega) (by omega) (by omega)) (congrArg qI ?_)
  rw [Int.zero_add, ← hrl]
  exact qSm_list0 (F := fun l => qCt l s) _ (fun x => if x = s then 1 else 0) rfl (fun _ _ => rfl)
theorem mIsCommon (h : qE r) {a : qAS} (hB : qMb (m 177) a) (hl : qMl a) {s b : Int} : qP m_Mo_isCommon [qK 176, qI s, qI b] (qT0, m, r) (qI (qbi (decide (b ≤ qCt (qRs a) s)))) := by
  obtain ⟨⟨b0, b1, b2, b3⟩, bp, bs, br⟩ := id hB
  obtain ⟨l1, l2, l3, l4, l5⟩ := id hl
  have hrl := qRs_len a
  refine qr_al rfl rfl (w := ?_)
  refine qr_il rfl rfl (w := ?_)
  refine qr_callP rfl (mHaveOf h hB hl) (qrcv1 kd_176) (w := ?_)
  refine qr_il rfl rfl (w := ?_)
  refine qr_iclt rfl (fun hc => ?_) (fun hc => ?_)
  · refine qr_const rfl (w := ?_)
    refine qW_zreturn rfl (by first | exact Or.inl rfl | exact Or.inr rfl | (simp only [qbi]; split <;> simp)) ?_
    refine ⟨congrArg qI ?_, rfl⟩
    simp only [qbi]
    first | (rw [if_pos (decide_eq_true (by omega))]; done) | (rw [if_neg (fun h9 => by have := of_decide_eq_true h9; omega)]; done)
  · refine qr_const rfl (w := ?_)
    refine qr_goto rfl (w := ?_)
    refine qW_zreturn rfl (by first | exact Or.inl rfl | exact Or.inr rfl | (simp only [qbi]; split <;> simp)) ?_
    refine ⟨congrArg qI ?_, rfl⟩
    simp only [qbi]
    first | (rw [if_pos (decide_eq_true (by omega))]; done) | (rw [if_neg (fun h9 => by have := of_decide_eq_true h9; omega)]; done)
theorem mCommonMany_loop (h : qE r) {a : qAS} (hB : qMb (m 177) a) (hl : qMl a) {b : Int} : ∀ (k i : Nat) (c : Int), i + k = a.2.1.length → 0 ≤ c → c ≤ i → qP2 m_Mo_commonMany 4 [qK 176, qI b, qI c, qI i] (qT0, m, r) (qI (c + qSm k i (fun i => if b ≤ qCt (qRs a) i then 1 else 0))) := by
  obtain ⟨⟨b0, b1, b2, b3⟩, bp, bs, br⟩ := id hB
  obtain ⟨l1, l2, l3, l4, l5⟩ := id hl
  have hrl := qRs_len a
  intro k
  induction k with
  | zero =>
    intro i c hik hc0 hc1
    unfold qP2
    refine qr_il rfl rfl (w := ?_)
    refine qr_al rfl rfl (w := ?_)
    refine qr_gr rfl kd_176 (hr := (rf_8_0 h)) (w := ?_)
    refine qr_const rfl (w := ?_)
    refine qr_ia rfl kd_177 (by omega) (w := ?_)
    refine qr_icge rfl (fun hc => ?_) (fun hc => ?_)
    · refine qr_il rfl rfl (w := ?_)
      refine qW_ireturn rfl ?_
      exact ⟨by simp [qSm], rfl⟩
    · exact absurd hc (by omega)
  | succ k ih =>
    intro i c hik hc0 hc1
    unfold qP2
    simp only [qSm]
    refine qr_il rfl rfl (w := ?_)
    refine qr_al rfl rfl (w := ?_)
    refine qr_gr rfl kd_176 (hr := (rf_8_0 h)) (w := ?_)
    refine qr_const rfl (w := ?_)
    refine qr_ia rfl kd_177 (by omega) (w := ?_)
    refine qr_icge rfl (fun hc => ?_) (fun hc => ?_)
    · exact absurd hc (by omega)
    · refine qr_il rfl rfl (w := ?_)
      refine qr_al rfl rfl (w := ?_)
      refine qr_il rfl rfl (w := ?_)
      refine qr_il rfl rfl (w := ?_)
      refine qr_callP rfl (mIsCommon h hB hl) (qrcv1 kd_176) (w := ?_)
      refine qr_ifeqB rfl (fun hcf => ?_) (fun hcf => ?_)
      · refine qr_const rfl (w := ?_)
        refine qr_add rfl (by omega) (w := ?_)
        refine qr_is2 rfl (w := ?_)
        refine qr_inc3 rfl (by omega) (w := ?_)
        refine qr_goto rfl (w := ?_)
        refine qW2 (ih (i + 1) _ (by omega) (by omega) (by omega)) (congrArg qI ?_)
        simp only [decide_eq_true_eq, decide_eq_false_iff_not] at *
        first
          | omega
          | (split <;> omega)
          | (split <;> split <;> omega)
      · refine qr_const rfl (w := ?_)
        refine qr_goto rfl (w := ?_)
        refine qr_add rfl (by omega) (w := ?_)
        refine qr_is2 rfl (w := ?_)
        refine qr_inc3 rfl (by omega) (w := ?_)
        refine qr_goto rfl (w := ?_)
        refine qW2 (ih (i + 1) _ (by omega) (by omega) (by omega)) (congrArg qI ?_)
        simp only [decide_eq_true_eq, decide_eq_false_iff_not] at *
        first
          | omega
          | (split <;> omega)
          | (split <;> split <;> omega)
theorem mCommonMany (h : qE r) {a : qAS} (hB : qMb (m 177) a) (hl : qMl a) {b : Int} : qP m_Mo_commonMany [qK 176, qI b, none, none] (qT0, m, r) (qI (qCom (qRs a) a.2.1.length b)) := by
  obtain ⟨⟨b0, b1, b2, b3⟩, bp, bs, br⟩ := id hB
  obtain ⟨l1, l2, l3, l4, l5⟩ := id hl
  have hrl := qRs_len a
  refine qr_const rfl (w := ?_)
  refine qr_is2 rfl (w := ?_)
  refine qr_const rfl (w := ?_)
  refine qr_is3 rfl (w := ?_)
  refine qW2 (mCommonMany_loop h hB hl a.2.1.length 0 0 (by omega) (by omega) (by omega)) (congrArg qI ?_)
  rw [Int.zero_add]
  rfl
theorem mRecordMany_loop (h : qE r) {a : qAS} (hB : qMb (m 177) a) (hl : qMl a) : ∀ (k i : Nat) (c : Int), i + k = a.2.2.2.length → 0 ≤ c → c ≤ i → qP2 m_Mo_recordMany 4 [qK 176, qI c, qI i] (qT0, m, r) (qI (c + qSm k i (fun i => if qAt (qRs a) i ≠ -9 then 1 else 0))) := by
  obtain ⟨⟨b0, b1, b2, b3⟩, bp, bs, br⟩ := id hB
  obtain ⟨l1, l2, l3, l4, l5⟩ := id hl
  have hrl := qRs_len a
  intro k
  induction k with
  | zero =>
    intro i c hik hc0 hc1
    unfold qP2
    refine qr_il rfl rfl (w := ?_)
    refine qr_al rfl rfl (w := ?_)
    refine qr_gr rfl kd_176 (hr := (rf_8_0 h)) (w := ?_)
    refine qr_const rfl (w := ?_)
    refine qr_ia rfl kd_177 (by omega) (w := ?_)
    refine qr_icge rfl (fun hc => ?_) (fun hc => ?_)
    · refine qr_il rfl rfl (w := ?_)
      refine qW_ireturn rfl ?_
      exact ⟨by simp [qSm], rfl⟩
    · exact absurd hc (by omega)
  | succ k ih =>
    intro i c hik hc0 hc1
    unfold qP2
    simp only [qSm]
    refine qr_il rfl rfl (w := ?_)
    refine qr_al rfl rfl (w := ?_)
    refine qr_gr rfl kd_176 (hr := (rf_8_0 h)) (w := ?_)
    refine qr_const rfl (w := ?_)
    refine qr_ia rfl kd_177 (by omega) (w := ?_)
    refine qr_icge rfl (fun hc => ?_) (fun hc => ?_)
    · exact absurd hc (by omega)
    · refine qr_il rfl rfl (w := ?_)
      refine qr_al rfl rfl (w := ?_)
      refine qr_il rfl rfl (w := ?_)
      refine qr_callP rfl (mShapeOf (i := i) h hB hl (by omega)) (qrcv1 kd_176) (w := ?_)
      refine qr_const rfl (w := ?_)
      refine qr_iceq rfl (fun hcf => ?_) (fun hcf => ?_)
      · refine qr_const rfl (w := ?_)
        refine qr_add rfl (by omega) (w := ?_)
        refine qr_is1 rfl (w := ?_)
        refine qr_inc2 rfl (by omega) (w := ?_)
        refine qr_goto rfl (w := ?_)
        refine qW2 (ih (i + 1) _ (by omega) (by omega) (by omega)) (congrArg qI ?_)
        first
          | omega
          | (split <;> omega)
          | (split <;> split <;> omega)
      · refine qr_const rfl (w := ?_)
        refine qr_goto rfl (w := ?_)
        refine qr_add rfl (by omega) (w := ?_)
        refine qr_is1 rfl (w := ?_)
        refine qr_inc2 rfl (by omega) (w := ?_)
        refine qr_goto rfl (w := ?_)
        refine qW2 (ih (i + 1) _ (by omega) (by omega) (by omega)) (congrArg qI ?_)
        first
          | omega
          | (split <;> omega)
          | (split <;> split <;> omega)
theorem mRecordMany (h : qE r) {a : qAS} (hB : qMb (m 177) a) (hl : qMl a) : qP m_Mo_recordMany [qK 176, none, none] (qT0, m, r) (qI (qNe (qRs a))) := by
  obtain ⟨⟨b0, b1, b2, b3⟩, bp, bs, br⟩ := id hB
  obtain ⟨l1, l2, l3, l4, l5⟩ := id hl
  have hrl := qRs_len a
  refine qr_const rfl (w := ?_)
  refine qr_is1 rfl (w := ?_)
  refine qr_const rfl (w := ?_)
  refine qr_is2 rfl (w := ?_)
  refine qW2 (mRecordMany_loop h hB hl a.2.2.2.length 0 0 (by omega) (by omega) (by omega)) (congrArg qI ?_)
  rw [Int.zero_add, ← hrl]
  exact qSm_list0 _ (fun x => if x ≠ -9 then 1 else 0) rfl (fun _ _ => rfl)
