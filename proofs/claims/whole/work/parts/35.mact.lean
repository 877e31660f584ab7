/-! The reference's methods that write, but drop and read -/
variable {m : Nat → Int → Int} {r : Nat → Int → Option Nat}
theorem qGet_set (a : qAS) (i : Nat) (k : Int) (e : Int × List Int) (hk : 0 ≤ k) (hi : i < a.2.2.2.length) : qGet (qRc a (a.2.2.2.set i e)) k = if k = i then e else qGet a k := by
  unfold qGet
  show (a.2.2.2.set i e).getD k.toNat (-9, []) = _
  rw [List.getD_eq_getElem?_getD]
  by_cases h : k = i
  · subst h
    rw [if_pos rfl, Int.toNat_natCast, List.getElem?_set_self hi]
    rfl
  · rw [if_neg h, List.getElem?_set_ne (by omega), List.getD_eq_getElem?_getD]
theorem qVv_get (a : qAS) (i lf : Int) : qVv a i lf = (qGet a i).2.getD lf.toNat 0 := rfl
theorem qMl_rec {a : qAS} (hl : qMl a) {i : Nat} {x : Int} {V : List Int} (hi : i < a.2.2.2.length) (hV : V.length ≤ 10) : qMl (qRc a (a.2.2.2.set i (x, V))) := by
  refine ⟨hl.1, hl.2.1, hl.2.2.1, ?_, fun k => ?_⟩
  · show (a.2.2.2.set i (x, V)).length ≤ 30
    rw [List.length_set]
    exact hl.2.2.2.1
  · by_cases hk : 0 ≤ k
    · rw [qGet_set a i k _ hk hi]
      split
      · exact hV
      · exact hl.2.2.2.2 k
    · have e : k.toNat = 0 := by omega
      have e2 : qGet (qRc a (a.2.2.2.set i (x, V))) k = qGet (qRc a (a.2.2.2.set i (x, V))) 0 := by
        unfold qGet
        rw [e]
        rfl
      rw [e2, qGet_set a i 0 _ (Int.le_refl _) hi]
      split
      · exact hV
      · exact hl.2.2.2.2 0
theorem qMb_rec {g g' : Int → Int} {a : qAS} {i : Nat} {x : Int} {V : List Int} (hB : qMb g a) (hl : qMl a) (hi : i < a.2.2.2.length) (hV : V.length ≤ 10) (h0 : ∀ j : Int, 0 ≤ j → j < 1294 → j < 964 + 11 * i ∨ 964 + 11 * i + 11 ≤ j → g' j = g j) (hx : g' (964 + 11 * i) = x) (hv : ∀ j : Nat, j < V.length → g' (964 + 11 * i + 1 + j) = V.getD j 0) : qMb g' (qRc a (a.2.2.2.set i (x, V))) := by
  obtain ⟨⟨b0, b1, b2, b3⟩, bp, bs, br⟩ := hB
  obtain ⟨l1, l2, l3, l4, l5⟩ := hl
  have e4 : (qRc a (a.2.2.2.set i (x, V))).2.2.2.length = a.2.2.2.length := List.length_set
  have hrl := qRs_len a
  refine ⟨⟨?_, ?_, ?_, ?_⟩, fun p g0 g1 => ?_, fun s g0 g1 => ⟨?_, fun k k0 k1 => ?_⟩, fun k g0 g1 => ⟨?_, fun j k0 k1 => ?_⟩⟩
  · rw [h0 _ (by omega) (by omega) (by omega), e4]; exact b0
  · rw [h0 _ (by omega) (by omega) (by omega)]; exact b1
  · rw [h0 _ (by omega) (by omega) (by omega)]; exact b2
  · rw [h0 _ (by omega) (by omega) (by omega)]; exact b3
  · have g1' : p < a.1.length := g1
    rw [h0 _ (by omega) (by omega) (by omega), h0 _ (by omega) (by omega) (by omega)]
    exact bp p g0 g1
  · have g1' : s < a.2.1.length := g1
    rw [h0 _ (by omega) (by omega) (by omega)]; exact (bs s g0 g1).1
  · have g1' : s < a.2.1.length := g1
    have k1' : k < (qGf a.2.1 s).length := k1
    have := l3 s
    rw [h0 _ (by omega) (by omega) (by omega)]; exact (bs s g0 g1).2 k k0 k1
  · rw [e4] at g1
    rw [qRs_set, qAt_set (by omega)]
    split
    · rename_i e
      rw [e]
      exact hx
    · rename_i e
      rw [h0 _ (by omega) (by omega) (by omega)]
      exact (br k g0 g1).1
  · rw [e4] at g1
    rw [qVv_get]
    rw [qGet_set a i k _ g0 hi] at k1 ⊢
    by_cases e : k = i
    · rw [if_pos e] at k1 ⊢
      dsimp only at k1 ⊢
      obtain ⟨j, rfl⟩ : ∃ y : Nat, j = y := ⟨j.toNat, by omega⟩
      rw [e, Int.toNat_natCast]
      exact hv j (by omega)
    · rw [if_neg e] at k1 ⊢
      have := l5 k
      rw [h0 _ (by omega) (by omega) (by omega)]
      exact (br k g0 g1).2 j k0 k1
theorem qMh_eq {m' : Nat → Int → Int} {hs : List qAS} (h : qMh m hs) (e1 : m' 176 2 = m 176 2) (e2 : m' 178 = m 178) : qMh m' hs := ⟨e1.trans h.1, fun i a hi => by rw [e2]; exact h.2 i a hi⟩
theorem qMt_eq {m' : Nat → Int → Int} {t : List Int} (h : qMt m t) (e1 : m' 176 5 = m 176 5) (e2 : m' 180 = m 180) : qMt m' t := ⟨e1.trans h.1, fun i hi => by rw [e2]; exact h.2 i hi⟩
theorem qPr_rn : ∀ (a : Nat) (j : Int), qPr a j → 176 ≤ a ∧ a < 188 := fun a j e => by rcases e with e | e <;> omega
theorem mAppend (h : qE r) {w : qWd} (hM : qMo m w) (hw : qWW w) {c : Int} : qW m_Mo_append 0 [qK 176, qI c] [] (qT0, m, r) (fun y σ => ∃ m', σ = (qT0, m', r) ∧ y = qI (fAppend w c) ∧ qMo m' (gAppend w c) ∧ qFr (qIv 176 188) m m') := by
  have hB := hM.1
  have hl := qMl_of hw.1
  have hR := qRk_of hw.1
  have hV := qRv_of hw.1
  have hrl := qRs_len w.1
  obtain ⟨⟨b0, b1, b2, b3⟩, bp, bs, br⟩ := id hB
  obtain ⟨l1, l2, l3, l4, l5⟩ := id hl
  obtain ⟨-, mh, mp, mt, mx⟩ := id hM
  have w5 := hw.2.2.1
  have w80 := hw.2.2.2.1
  have wb := hw.1.2.2.2.1
  obtain ⟨-, hH, hT⟩ := qMo_iff.mp hM
  have hls : ∀ b ∈ w.2.1, qMl b := fun b hb => qMl_of (hw.2.1 b hb)
  obtain ⟨t1, t2⟩ := id hT
  unfold fAppend gAppend
  refine qr_il rfl rfl (w := ?_)
  refine qr_const rfl (w := ?_)
  refine qr_const rfl (w := ?_)
  refine qr_callP rfl mIn rfl (w := ?_)
  refine qr_ifneB rfl (fun hc => ?_) (fun hc => ?_)
  · refine qr_al rfl rfl (w := ?_)
    refine qr_gi rfl kd_176 (w := ?_)
    refine qr_const rfl (w := ?_)
    refine qr_icne rfl (fun hct => ?_) (fun hct => ?_)
    · refine qr_al rfl rfl (w := ?_)
      refine qr_gr rfl kd_176 (hr := (rf_8_4 h)) (w := ?_)
      refine qr_al rfl rfl (w := ?_)
      refine qr_gi rfl kd_176 (w := ?_)
      refine qr_il rfl rfl (w := ?_)
      refine qr_ias rfl kd_180 (by omega) (w := ?_)
      refine qr_al rfl rfl (w := ?_)
      refine qr_dup rfl (w := ?_)
      refine qr_gi rfl kd_176 (w := ?_)
      have hcl := of_decide_eq_true hc
      have e5 : (qup m 180 (m 176 5) c) 176 5 = w.2.2.length := (qup_z (by decide)).trans t1
      rw [e5]
      refine qr_const rfl (w := ?_)
      refine qr_add rfl (by omega) (w := ?_)
      refine qr_pi rfl kd_176 (w := ?_)
      refine qr_al rfl rfl (w := ?_)
      refine qr_gi rfl kd_176 (w := ?_)
      refine qW_ireturn rfl ?_
      refine ⟨_, rfl, congrArg qI ?_, ?_, qFr_G (P := fun a _ => a = 180 ∨ a = 176) (qG_tr (qG_up (Or.inl rfl)) (qG_up (Or.inr rfl))) (fun a j e => by rcases e with e | e <;> omega)⟩
      · rw [if_neg (by omega), if_neg (by omega)]
        exact qup_s
      · rw [if_neg (by omega)]
        rw [t1]
        refine qMo_iff.mpr ⟨?_, qMh_eq hH ?_ ?_, ⟨?_, fun k hk => ?_⟩⟩
        · rw [show (qup (qup m 180 w.2.2.length c) 176 5 (w.2.2.length + 1)) 177 = m 177 from funext (fun j => (qup_z (by decide)).trans (qup_z (by decide)))]
          exact hB
        · exact (qup_i (by decide)).trans (qup_z (by decide))
        · exact funext (fun j => (qup_z (by decide)).trans (qup_z (by decide)))
        · rw [qup_s, List.length_append]
          rfl
        · rw [List.length_append] at hk
          simp only [List.length_cons, List.length_nil] at hk
          rw [qup_z (by decide), List.getD_eq_getElem?_getD]
          by_cases hk2 : k < w.2.2.length
          · rw [qup_i (by omega), List.getElem?_append_left hk2, ← List.getD_eq_getElem?_getD]
            exact t2 k hk2
          · have e : k = w.2.2.length := by omega
            subst e
            rw [qup_s, List.getElem?_append_right (Nat.le_refl _), Nat.sub_self]
            rfl
    · refine qr_const rfl (w := ?_)
      have hcl := of_decide_eq_true hc
      refine qW_ireturn rfl ⟨m, rfl, congrArg qI ?_, ?_, qFr_rf⟩
      · rw [if_neg (by omega), if_pos (by omega)]
      · rw [if_pos (by omega)]
        exact hM
  · refine qr_const rfl (w := ?_)
    have hcl := of_decide_eq_false hc
    refine qW_ireturn rfl ⟨m, rfl, congrArg qI ?_, ?_, qFr_rf⟩
    · rw [if_pos (by omega)]
    · rw [if_pos (by omega)]
      exact hM
theorem mClearText (h : qE r) {w : qWd} (hM : qMo m w) (hw : qWW w) : qW m_Mo_clearText 0 [qK 176, none] [] (qT0, m, r) (fun y σ => ∃ m', σ = (qT0, m', r) ∧ y = qI (w.2.2.length) ∧ qMo m' (gClear w) ∧ qFr (qIv 176 188) m m') := by
  have hB := hM.1
  have hl := qMl_of hw.1
  have hR := qRk_of hw.1
  have hV := qRv_of hw.1
  have hrl := qRs_len w.1
  obtain ⟨⟨b0, b1, b2, b3⟩, bp, bs, br⟩ := id hB
  obtain ⟨l1, l2, l3, l4, l5⟩ := id hl
  obtain ⟨-, mh, mp, mt, mx⟩ := id hM
  have w5 := hw.2.2.1
  have w80 := hw.2.2.2.1
  have wb := hw.1.2.2.2.1
  obtain ⟨-, hH, hT⟩ := qMo_iff.mp hM
  have hls : ∀ b ∈ w.2.1, qMl b := fun b hb => qMl_of (hw.2.1 b hb)
  obtain ⟨t1, t2⟩ := id hT
  refine qr_al rfl rfl (w := ?_)
  refine qr_gi rfl kd_176 (w := ?_)
  refine qr_is1 rfl (w := ?_)
  refine qr_al rfl rfl (w := ?_)
  refine qr_const rfl (w := ?_)
  refine qr_pi rfl kd_176 (w := ?_)
  refine qr_il rfl rfl (w := ?_)
  refine qW_ireturn rfl ?_
  refine ⟨_, rfl, congrArg qI t1, qMo_iff.mpr ⟨?_, qMh_eq hH (qup_i (by decide)) (funext (fun j => qup_z (by decide))), ⟨qup_s, fun k hk => by simp [gClear] at hk⟩⟩, qFr_G (P := fun a _ => a = 176) (qG_up rfl) (fun a j e => by omega)⟩
  rw [show (qup m 176 5 0) 177 = m 177 from funext (fun j => qup_z (by decide))]
  exact hB
theorem mDiscard (h : qE r) {w : qWd} (hM : qMo m w) (hw : qWW w) {i : Int} : qW m_Mo_discard 0 [qK 176, qI i] [] (qT0, m, r) (fun y σ => ∃ m', σ = (qT0, m', r) ∧ y = qI (fDiscard w i) ∧ qMo m' (gDiscard w i) ∧ qFr (qIv 176 188) m m') := by
  have hB := hM.1
  have hl := qMl_of hw.1
  have hR := qRk_of hw.1
  have hV := qRv_of hw.1
  have hrl := qRs_len w.1
  obtain ⟨⟨b0, b1, b2, b3⟩, bp, bs, br⟩ := id hB
  obtain ⟨l1, l2, l3, l4, l5⟩ := id hl
  obtain ⟨-, mh, mp, mt, mx⟩ := id hM
  have w5 := hw.2.2.1
  have w80 := hw.2.2.2.1
  have wb := hw.1.2.2.2.1
  obtain ⟨-, hH, hT⟩ := qMo_iff.mp hM
  have hls : ∀ b ∈ w.2.1, qMl b := fun b hb => qMl_of (hw.2.1 b hb)
  unfold fDiscard gDiscard
  by_cases h9 : qAt (qRs w.1) i = -9
  · rw [if_pos h9, if_pos h9]
    refine qr_al rfl rfl (w := ?_)
    refine qr_il rfl rfl (w := ?_)
    refine qr_callP rfl (mIsRecord h hB hl) (qrcv1 kd_176) (w := ?_)
    refine qr_ifneB rfl (fun hc => absurd h9 (of_decide_eq_true hc)) (fun hc => ?_)
    refine qr_const rfl (w := ?_)
    refine qW_ireturn rfl ?_
    exact ⟨m, rfl, rfl, hM, qFr_rf⟩
  · rw [if_neg h9, if_neg h9]
    obtain ⟨q1, q2⟩ := qHas_lt h9
    obtain ⟨i, rfl⟩ : ∃ y : Nat, i = y := ⟨i.toNat, by omega⟩
    have hld : qMl (aDiscard w.1 i) := by
      unfold aDiscard
      rw [Int.toNat_natCast]
      exact qMl_rec hl (by omega) (l5 _)
    refine qr_al rfl rfl (w := ?_)
    refine qr_il rfl rfl (w := ?_)
    refine qr_callP rfl (mIsRecord h hB hl) (qrcv1 kd_176) (w := ?_)
    refine qr_ifneB rfl (fun hc => ?_) (fun hc => absurd (of_decide_eq_false hc) (fun e => e h9))
    refine qr_al rfl rfl (w := ?_)
    refine qr_al rfl rfl (w := ?_)
    refine qr_gr rfl kd_176 (hr := (rf_8_0 h)) (w := ?_)
    refine qr_callV rfl (mRecords (z := 177) h kd_177 (by decide) hH w5 hls hB hl) (qrcv1 kd_176) (w := fun _ σ hσ => ?_)
    obtain ⟨m1, rfl, hH1, hG1⟩ := hσ
    have e177 : m1 177 = m 177 := qG_row hG1 (fun j e => by rcases e with e | e <;> omega)
    have e180 : m1 180 = m 180 := qG_row hG1 (fun j e => by rcases e with e | e <;> omega)
    have e5 : m1 176 5 = m 176 5 := hG1 176 5 (fun e => by rcases e with e | e <;> omega)
    have hB1 : qMb (m1 177) w.1 := e177.symm ▸ hB
    refine qr_al rfl rfl (w := ?_)
    refine qr_gr rfl kd_176 (hr := (rf_8_0 h)) (w := ?_)
    refine qr_const rfl (w := ?_)
    refine qr_const rfl (w := ?_)
    refine qr_il rfl rfl (w := ?_)
    refine qr_mul rfl (by omega) (w := ?_)
    refine qr_add rfl (by omega) (w := ?_)
    refine qr_const rfl (w := ?_)
    refine qr_ias rfl kd_177 (by omega) (w := ?_)
    refine qr_al rfl rfl (w := ?_)
    have hBd : qMb ((qup m1 177 (964 + 11 * i) (-9)) 177) (aDiscard w.1 i) := by
      unfold aDiscard
      rw [Int.toNat_natCast]
      refine qMb_rec hB1 hl (by omega) (l5 _) (fun j g0 g1 g2 => qup_i (by omega)) qup_s (fun j hj => ?_)
      have h5 := l5 i
      rw [qup_i (by omega), e177, (br i (by omega) (by omega)).2 j (by omega) (by omega), qVv_get, Int.toNat_natCast]
    refine qr_callP rfl (mRecordMany h hBd hld) (qrcv1 kd_176) (w := ?_)
    refine qW_ireturn rfl ?_
    exact ⟨_, rfl, rfl, qMo_iff.mpr ⟨hBd, (qMh_eq hH1 (qup_z (by decide)) (funext (fun j => qup_z (by decide)))), (qMt_eq (qMt_eq hT e5 e180) (qup_z (by decide)) (funext (fun j => qup_z (by decide))))⟩, qFr_G (P := fun a _ => a = 178 ∨ a = 176 ∨ a = 177) (qG_tr (qG_mo hG1 (fun a j e => e.elim Or.inl (fun e => Or.inr (Or.inl e.1)))) (qG_up (Or.inr (Or.inr rfl)))) (fun a j e => by rcases e with e | e | e <;> omega)⟩
theorem mSetBound (h : qE r) {w : qWd} (hM : qMo m w) (hw : qWW w) {b : Int} : qW m_Mo_setBound 0 [qK 176, qI b] [] (qT0, m, r) (fun y σ => ∃ m', σ = (qT0, m', r) ∧ y = qI (fSetBound w b) ∧ qMo m' (gSetBound w b) ∧ qFr (qIv 176 188) m m') := by
  have hB := hM.1
  have hl := qMl_of hw.1
  have hR := qRk_of hw.1
  have hV := qRv_of hw.1
  have hrl := qRs_len w.1
  obtain ⟨⟨b0, b1, b2, b3⟩, bp, bs, br⟩ := id hB
  obtain ⟨l1, l2, l3, l4, l5⟩ := id hl
  obtain ⟨-, mh, mp, mt, mx⟩ := id hM
  have w5 := hw.2.2.1
  have w80 := hw.2.2.2.1
  have wb := hw.1.2.2.2.1
  obtain ⟨-, hH, hT⟩ := qMo_iff.mp hM
  have hls : ∀ b ∈ w.2.1, qMl b := fun b hb => qMl_of (hw.2.1 b hb)
  unfold fSetBound gSetBound
  by_cases hb : 1 ≤ b ∧ b ≤ 10
  · rw [if_pos hb, if_pos hb]
    refine qr_il rfl rfl (w := ?_)
    refine qr_const rfl (w := ?_)
    refine qr_const rfl (w := ?_)
    refine qr_callP rfl mIn rfl (w := ?_)
    refine qr_ifneB rfl (fun hc => ?_) (fun hc => absurd hb (of_decide_eq_false hc))
    refine qr_al rfl rfl (w := ?_)
    refine qr_al rfl rfl (w := ?_)
    refine qr_gr rfl kd_176 (hr := (rf_8_0 h)) (w := ?_)
    refine qr_callV rfl (mRecords (z := 177) h kd_177 (by decide) hH w5 hls hB hl) (qrcv1 kd_176) (w := fun _ σ hσ => ?_)
    obtain ⟨m1, rfl, hH1, hG1⟩ := hσ
    have e177 : m1 177 = m 177 := qG_row hG1 (fun j e => by rcases e with e | e <;> omega)
    have e180 : m1 180 = m 180 := qG_row hG1 (fun j e => by rcases e with e | e <;> omega)
    have e5 : m1 176 5 = m 176 5 := hG1 176 5 (fun e => by rcases e with e | e <;> omega)
    have hB1 : qMb (m1 177) w.1 := e177.symm ▸ hB
    refine qr_al rfl rfl (w := ?_)
    refine qr_gr rfl kd_176 (hr := (rf_8_0 h)) (w := ?_)
    refine qr_const rfl (w := ?_)
    refine qr_il rfl rfl (w := ?_)
    refine qr_ias rfl kd_177 (by omega) (w := ?_)
    refine qr_al rfl rfl (w := ?_)
    refine qr_il rfl rfl (w := ?_)
    have hBd : qMb ((qup m1 177 3 b) 177) (aBound w.1 b) := by
      rw [← e177] at b0 b1 b2 bp bs br
      refine ⟨⟨(qup_i (by omega)).trans b0, (qup_i (by omega)).trans b1, (qup_i (by omega)).trans b2, qup_s⟩, fun p g0 g1 => ⟨(qup_i (by omega)).trans (bp p g0 g1).1, (qup_i (by omega)).trans (bp p g0 g1).2⟩, fun s g0 g1 => ⟨(qup_i (by omega)).trans (bs s g0 g1).1, fun k k0 k1 => (qup_i (by omega)).trans ((bs s g0 g1).2 k k0 k1)⟩, fun i g0 g1 => ⟨(qup_i (by omega)).trans (br i g0 g1).1, fun k k0 k1 => (qup_i (by omega)).trans ((br i g0 g1).2 k k0 k1)⟩⟩
    have hld : qMl (aBound w.1 b) := hl
    refine qr_callP rfl (mCommonMany (b := b) h hBd hld) (qrcv1 kd_176) (w := ?_)
    refine qW_ireturn rfl ?_
    exact ⟨_, rfl, rfl, qMo_iff.mpr ⟨hBd, (qMh_eq hH1 (qup_z (by decide)) (funext (fun j => qup_z (by decide)))), (qMt_eq (qMt_eq hT e5 e180) (qup_z (by decide)) (funext (fun j => qup_z (by decide))))⟩, qFr_G (P := fun a _ => a = 178 ∨ a = 176 ∨ a = 177) (qG_tr (qG_mo hG1 (fun a j e => e.elim Or.inl (fun e => Or.inr (Or.inl e.1)))) (qG_up (Or.inr (Or.inr rfl)))) (fun a j e => by rcases e with e | e | e <;> omega)⟩
  · rw [if_neg hb, if_neg hb]
    refine qr_il rfl rfl (w := ?_)
    refine qr_const rfl (w := ?_)
    refine qr_const rfl (w := ?_)
    refine qr_callP rfl mIn rfl (w := ?_)
    refine qr_ifneB rfl (fun hc => absurd (of_decide_eq_true hc) hb) (fun hc => ?_)
    refine qr_const rfl (w := ?_)
    refine qW_ireturn rfl ?_
    exact ⟨m, rfl, rfl, hM, qFr_rf⟩
theorem mUndo (h : qE r) {w : qWd} (hM : qMo m w) (hw : qWW w) : qW m_Mo_undo 0 [qK 176] [] (qT0, m, r) (fun y σ => ∃ m', σ = (qT0, m', r) ∧ y = qI (fUndo w) ∧ qMo m' (gUndo w) ∧ qFr (qIv 176 188) m m') := by
  have hB := hM.1
  have hl := qMl_of hw.1
  have hR := qRk_of hw.1
  have hV := qRv_of hw.1
  have hrl := qRs_len w.1
  obtain ⟨⟨b0, b1, b2, b3⟩, bp, bs, br⟩ := id hB
  obtain ⟨l1, l2, l3, l4, l5⟩ := id hl
  obtain ⟨-, mh, mp, mt, mx⟩ := id hM
  have w5 := hw.2.2.1
  have w80 := hw.2.2.2.1
  have wb := hw.1.2.2.2.1
  obtain ⟨-, hH, hT⟩ := qMo_iff.mp hM
  have hls : ∀ b ∈ w.2.1, qMl b := fun b hb => qMl_of (hw.2.1 b hb)
  have h2 := hH.1
  unfold fUndo gUndo
  by_cases hz : w.2.1.length = 0
  · rw [if_pos hz, if_pos hz]
    refine qr_al rfl rfl (w := ?_)
    refine qr_gi rfl kd_176 (w := ?_)
    refine qr_ifne rfl (fun hc => absurd hc (by omega)) (fun hc => ?_)
    refine qr_const rfl (w := ?_)
    refine qW_ireturn rfl ?_
    exact ⟨m, rfl, rfl, hM, qFr_rf⟩
  · rw [if_neg hz, if_neg hz]
    obtain ⟨n, hn⟩ : ∃ n : Nat, w.2.1.length = n + 1 := ⟨w.2.1.length - 1, by omega⟩
    have hpop : (qup m 176 2 (m 176 2 - 1)) 176 2 = n := by rw [qup_s]; omega
    refine qr_al rfl rfl (w := ?_)
    refine qr_gi rfl kd_176 (w := ?_)
    refine qr_ifne rfl (fun hc => ?_) (fun hc => absurd hc (by omega))
    refine qr_al rfl rfl (w := ?_)
    refine qr_dup rfl (w := ?_)
    refine qr_gi rfl kd_176 (w := ?_)
    refine qr_const rfl (w := ?_)
    refine qr_sub rfl (by omega) (w := ?_)
    refine qr_pi rfl kd_176 (w := ?_)
    refine qr_al rfl rfl (w := ?_)
    refine qr_gr rfl kd_176 (hr := (rf_8_1 h)) (w := ?_)
    refine qr_al rfl rfl (w := ?_)
    refine qr_gi rfl kd_176 (w := ?_)
    rw [hpop]
    refine qr_const rfl (w := ?_)
    refine qr_mul rfl (by omega) (w := ?_)
    refine qr_al rfl rfl (w := ?_)
    refine qr_gr rfl kd_176 (hr := (rf_8_0 h)) (w := ?_)
    refine qr_const rfl (w := ?_)
    refine qr_callV rfl (mCopies (f := (n : Int) * 1294) (t := 0) kd_178 kd_177 (by decide) (by omega) (by omega)) rfl (w := fun _ σ hσ => ?_)
    obtain ⟨m2, rfl, hc2, hG2⟩ := hσ
    have e22 : m2 176 2 = n := (hG2 176 2 (fun e => by omega)).trans hpop
    refine qr_al rfl rfl (w := ?_)
    refine qr_gi rfl kd_176 (w := ?_)
    refine qW_ireturn rfl ?_
    have e178 : m2 178 = m 178 := (qG_row hG2 (fun j e => by omega)).trans (funext (fun j => qup_z (by decide)))
    have e180 : m2 180 = m 180 := (qG_row hG2 (fun j e => by omega)).trans (funext (fun j => qup_z (by decide)))
    have e5 : m2 176 5 = m 176 5 := (hG2 176 5 (fun e => by omega)).trans (qup_i (by decide))
    refine ⟨m2, rfl, congrArg qI (by rw [e22]; omega), qMo_iff.mpr ⟨?_, ⟨?_, fun i a hi => ?_⟩, qMt_eq hT e5 e180⟩, qFr_G (P := fun a _ => a = 176 ∨ a = 177) (qG_tr (qG_up (Or.inl rfl)) (qG_mo hG2 (fun a j e => Or.inr e.1))) (fun a j e => by rcases e with e | e <;> omega)⟩
    · have e9 : w.2.1.length - 1 = n := by omega
      show qMb (m2 177) (w.2.1.getD (w.2.1.length - 1) w.1)
      rw [e9, List.getD_eq_getElem?_getD, List.getElem?_eq_getElem (by omega)]
      refine qMb_eq (hH.2 n _ (List.getElem?_eq_getElem (by omega))) (hls _ (List.getElem_mem _)) (fun j g0 g1 => ?_)
      have := hc2 j g0 g1
      rw [Int.zero_add, qup_z (by decide)] at this
      rw [this]
      congr 1
      omega
    · rw [e22]
      show (n : Int) = ((w.2.1.take (w.2.1.length - 1)).length : Nat)
      rw [List.length_take]
      omega
    · rw [e178]
      refine hH.2 i a ?_
      have hi : (w.2.1.take (w.2.1.length - 1))[i]? = some a := hi
      rw [List.getElem?_take] at hi
      split at hi
      · exact hi
      · cases hi
theorem qGet_1 (a : qAS) {i : Nat} (hi : i < a.2.2.2.length) : (qGet a i).1 = qAt (qRs a) i := by rw [qGet_at hi, qRs_at a hi]
theorem mChange (h : qE r) {w : qWd} (hM : qMo m w) (hw : qWW w) {i p v : Int} : qW m_Mo_change 0 [qK 176, qI i, qI p, qI v, none, none] [] (qT0, m, r) (fun y σ => ∃ m', σ = (qT0, m', r) ∧ y = qI (fChange w i p v) ∧ qMo m' (gChange w i p v) ∧ qFr (qIv 176 188) m m') := by
  have hB := hM.1
  have hl := qMl_of hw.1
  have hR := qRk_of hw.1
  have hV := qRv_of hw.1
  have hrl := qRs_len w.1
  obtain ⟨⟨b0, b1, b2, b3⟩, bp, bs, br⟩ := id hB
  obtain ⟨l1, l2, l3, l4, l5⟩ := id hl
  obtain ⟨-, mh, mp, mt, mx⟩ := id hM
  have w5 := hw.2.2.1
  have w80 := hw.2.2.2.1
  have wb := hw.1.2.2.2.1
  obtain ⟨-, hH, hT⟩ := qMo_iff.mp hM
  have hls : ∀ b ∈ w.2.1, qMl b := fun b hb => qMl_of (hw.2.1 b hb)
  unfold fChange gChange
  by_cases hbad : qAt (qRs w.1) i = -9 ∨ ¬ (0 ≤ p ∧ p < w.1.1.length) ∨ v < 0 ∨ 999 < v
  · rw [if_pos hbad, if_pos (by omega)]
    refine qr_al rfl rfl (w := ?_)
    refine qr_il rfl rfl (w := ?_)
    refine qr_callP rfl (mIsRecord h hB hl) (qrcv1 kd_176) (w := ?_)
    refine qr_ifeqB rfl (fun hc => ?_) (fun hc => ?_)
    · refine qr_const rfl (w := ?_)
      refine qW_ireturn rfl ?_
      exact ⟨m, rfl, rfl, hM, qFr_rf⟩
    · refine qr_al rfl rfl (w := ?_)
      refine qr_il rfl rfl (w := ?_)
      refine qr_callP rfl (mIsPath h hB hl) (qrcv1 kd_176) (w := ?_)
      refine qr_ifeqB rfl (fun hcf => ?_) (fun hcf => ?_)
      · refine qr_const rfl (w := ?_)
        refine qW_ireturn rfl ?_
        exact ⟨m, rfl, rfl, hM, qFr_rf⟩
      · refine qr_il rfl rfl (w := ?_)
        refine qr_const rfl (w := ?_)
        refine qr_const rfl (w := ?_)
        refine qr_callP rfl mIn rfl (w := ?_)
        refine qr_ifneB rfl (fun hcff => ?_) (fun hcff => ?_)
        · exfalso
          simp only [decide_eq_true_eq, decide_eq_false_iff_not, ne_eq, Decidable.not_not] at *
          omega
        · refine qr_const rfl (w := ?_)
          refine qW_ireturn rfl ?_
          exact ⟨m, rfl, rfl, hM, qFr_rf⟩
  · rw [if_neg hbad]
    have h9 : qAt (qRs w.1) i ≠ -9 := fun e => hbad (Or.inl e)
    obtain ⟨q1, q2⟩ := qHas_lt h9
    obtain ⟨i, rfl⟩ : ∃ y : Nat, i = y := ⟨i.toNat, by omega⟩
    have hRi := hR i
    obtain ⟨v1, v2⟩ := hV i h9
    have hp : 0 ≤ p ∧ p < w.1.1.length := by omega
    have hfe : qGf w.1.2.1 (qAt (qRs w.1) i) = qFr' w.1 i := rfl
    have hpl := qLp_lt (qFr' w.1 i) (p := p) (by omega) 0
    have hl5 := l5 i
    refine qr_al rfl rfl (w := ?_)
    refine qr_il rfl rfl (w := ?_)
    refine qr_callP rfl (mIsRecord h hB hl) (qrcv1 kd_176) (w := ?_)
    refine qr_ifeqB rfl (fun hc => absurd h9 (of_decide_eq_false hc)) (fun hc => ?_)
    refine qr_al rfl rfl (w := ?_)
    refine qr_il rfl rfl (w := ?_)
    refine qr_callP rfl (mIsPath h hB hl) (qrcv1 kd_176) (w := ?_)
    refine qr_ifeqB rfl (fun hcf => absurd hp (of_decide_eq_false hcf)) (fun hcf => ?_)
    refine qr_il rfl rfl (w := ?_)
    refine qr_const rfl (w := ?_)
    refine qr_const rfl (w := ?_)
    refine qr_callP rfl mIn rfl (w := ?_)
    refine qr_ifneB rfl (fun hcff => ?_) (fun hcff => absurd (of_decide_eq_false hcff) (fun e => e (by omega)))
    refine qr_al rfl rfl (w := ?_)
    refine qr_al rfl rfl (w := ?_)
    refine qr_il rfl rfl (w := ?_)
    refine qr_callP rfl (mShapeOf (i := i) h hB hl ⟨q1, q2⟩) (qrcv1 kd_176) (w := ?_)
    refine qr_il rfl rfl (w := ?_)
    refine qr_callP rfl (mLeafAt (s := qAt (qRs w.1) i) h hB hl (by omega)) (qrcv1 kd_176) (w := ?_)
    rw [hfe]
    refine qr_is4 rfl (w := ?_)
    refine qr_il rfl rfl (w := ?_)
    refine qr_const rfl (w := ?_)
    refine qr_icne rfl (fun hcfft => ?_) (fun hcfft => ?_)
    · refine qr_al rfl rfl (w := ?_)
      refine qr_al rfl rfl (w := ?_)
      refine qr_gr rfl kd_176 (hr := (rf_8_0 h)) (w := ?_)
      refine qr_callV rfl (mRecords (z := 177) h kd_177 (by decide) hH w5 hls hB hl) (qrcv1 kd_176) (w := fun _ σ hσ => ?_)
      obtain ⟨m1, rfl, hH1, hG1⟩ := hσ
      have e177 : m1 177 = m 177 := qG_row hG1 (fun j e => by rcases e with e | e <;> omega)
      have e180 : m1 180 = m 180 := qG_row hG1 (fun j e => by rcases e with e | e <;> omega)
      have e5 : m1 176 5 = m 176 5 := hG1 176 5 (fun e => by rcases e with e | e <;> omega)
      have hB1 : qMb (m1 177) w.1 := e177.symm ▸ hB
      refine qr_al rfl rfl (w := ?_)
      refine qr_il rfl rfl (w := ?_)
      refine qr_il rfl rfl (w := ?_)
      refine qr_callP rfl (mValueOf (i := i) (j := qLp (qFr' w.1 i) p 0) h hB1 hl ⟨q1, q2⟩ (by omega)) (qrcv1 kd_176) (w := ?_)
      refine qr_is5 rfl (w := ?_)
      refine qr_al rfl rfl (w := ?_)
      refine qr_gr rfl kd_176 (hr := (rf_8_0 h)) (w := ?_)
      refine qr_const rfl (w := ?_)
      refine qr_const rfl (w := ?_)
      refine qr_il rfl rfl (w := ?_)
      refine qr_mul rfl (by omega) (w := ?_)
      refine qr_add rfl (by omega) (w := ?_)
      refine qr_const rfl (w := ?_)
      refine qr_add rfl (by omega) (w := ?_)
      refine qr_il rfl rfl (w := ?_)
      refine qr_add rfl (by omega) (w := ?_)
      refine qr_il rfl rfl (w := ?_)
      refine qr_ias rfl kd_177 (by omega) (w := ?_)
      refine qr_il rfl rfl (w := ?_)
      refine qW_ireturn rfl ?_
      have hbn : ¬ (qAt (qRs w.1) i = -9 ∨ ¬ (0 ≤ p ∧ p < w.1.1.length) ∨ v < 0 ∨ 999 < v ∨ qLp (qFr' w.1 i) p 0 = -9) := by omega
      obtain ⟨lf, hlf⟩ : ∃ lf : Nat, qLp (qFr' w.1 i) p 0 = lf := ⟨(qLp (qFr' w.1 i) p 0).toNat, by omega⟩
      refine ⟨_, rfl, congrArg qI ?_, ?_, qFr_G (P := fun a _ => a = 178 ∨ a = 176 ∨ a = 177) (qG_tr (qG_mo hG1 (fun a j e => e.elim Or.inl (fun e => Or.inr (Or.inl e.1)))) (qG_up (Or.inr (Or.inr rfl)))) (fun a j e => by rcases e with e | e | e <;> omega)⟩
      · rw [if_neg (by omega)]
      · rw [if_neg hbn]
        refine qMo_iff.mpr ⟨?_, (qMh_eq hH1 (qup_z (by decide)) (funext (fun j => qup_z (by decide)))), (qMt_eq (qMt_eq hT e5 e180) (qup_z (by decide)) (funext (fun j => qup_z (by decide))))⟩
        show qMb _ (aChange w.1 i p v)
        unfold aChange
        rw [Int.toNat_natCast, qGet_1 w.1 (by omega), hlf, Int.toNat_natCast]
        refine qMb_rec hB1 hl (by omega) (by rw [List.length_set]; exact hl5) (fun j g0 g1 g2 => qup_i (by omega)) ?_ (fun j hj => ?_)
        · rw [qup_i (by omega), e177]
          exact (br i q1 q2).1
        · rw [List.length_set] at hj
          rw [List.getD_eq_getElem?_getD]
          by_cases e : j = lf
          · subst e
            rw [qup_s, List.getElem?_set_self hj]
            rfl
          · rw [qup_i (by omega), List.getElem?_set_ne (by omega), e177, (br i q1 q2).2 j (by omega) (by omega), qVv_get, Int.toNat_natCast, List.getD_eq_getElem?_getD]
    · refine qr_const rfl (w := ?_)
      refine qW_ireturn rfl ⟨m, rfl, congrArg qI ?_, ?_, qFr_rf⟩
      · rw [if_pos (by omega)]
      · rw [if_pos (by omega)]
        exact hM
