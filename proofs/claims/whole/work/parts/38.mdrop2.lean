/-! The reference's drop, whole -/
variable {m : Nat → Int → Int} {r : Nat → Int → Option Nat}
theorem qLs_gf20 (ss : List (List Int)) (sh : Nat) (fs : List Int) (s : Int) (hl : (qGf ss s).length ≤ 20) (hf : fs.length ≤ 20) : (qGf (qLs ss sh fs) s).length ≤ 20 := by
  unfold qLs
  split
  · by_cases h1 : 0 ≤ s ∧ s < ss.length
    · rw [qGf_app h1]
      exact hl
    · by_cases h2 : s = ss.length
      · rw [h2, qGf_last]
        exact hf
      · rw [qGf_out (by rw [List.length_append]; simp only [List.length_cons, List.length_nil]; omega)]
        exact Nat.zero_le _
  · exact hl
theorem qMl_sn {a : qAS} (hl : qMl a) {fs : List Int} (hf : fs.length ≤ 20) {sh : Nat} (hs : sh < 40) : qMl (qSn a (qLs a.2.1 sh fs)) := by
  refine ⟨hl.1, ?_, fun s => qLs_gf20 _ _ _ _ (hl.2.2.1 s) hf, hl.2.2.2.1, hl.2.2.2.2⟩
  show (qLs a.2.1 sh fs).length ≤ 40
  unfold qLs
  have := hl.2.1
  split
  · rw [List.length_append]
    simp only [List.length_cons, List.length_nil]
    omega
  · exact this
theorem qRc_self {a : qAS} {i : Nat} (hi : i < a.2.2.2.length) : qRc a (a.2.2.2.set i (qAt (qRs a) i, (qGet a i).2)) = a := by
  have e : (qAt (qRs a) i, (qGet a i).2) = a.2.2.2[i] := by
    rw [← qGet_1 a hi, qGet_at hi]
  rw [e, List.set_getElem_self]
  rfl
theorem qTake_getD {V D : List Int} (h : V.take D.length = D) {j : Nat} (hj : j < D.length) : V.getD j 0 = D.getD j 0 := by
  have e : D.getD j 0 = (V.take D.length).getD j 0 := by rw [h]
  rw [e, List.getD_eq_getElem?_getD, List.getD_eq_getElem?_getD, List.getElem?_take, if_pos hj]
theorem mDrop (h : qE r) {w : qWd} (hM : qMo m w) (hw : qWW w) {i p : Int} : qW m_Mo_drop 0 [qK 176, qI i, qI p, none, none, none, none, none, none] [] (qT0, m, r) (fun y σ => ∃ m', σ = (qT0, m', r) ∧ y = qI (fDrop w i p) ∧ qMo m' (gDrop w i p) ∧ qFr (qIv 176 188) m m') := by
  have hB := hM.1
  have hl := qMl_of hw.1
  have hR := qRk_of hw.1
  have hV := qRv_of hw.1
  have hrl := qRs_len w.1
  obtain ⟨⟨b0, b1, b2, b3⟩, bp, bs, br⟩ := id hB
  obtain ⟨l1, l2, l3, l4, l5⟩ := id hl
  obtain ⟨-, mh, mp, mt, mx⟩ := id hM
  have w5 := hw.2.2.1
  have w80 := hw.2.2.2.1
  have wb := hw.1.2.2.2.1
  obtain ⟨-, hH, hT⟩ := qMo_iff.mp hM
  have hls : ∀ b ∈ w.2.1, qMl b := fun b hb => qMl_of (hw.2.1 b hb)
  unfold fDrop gDrop
  by_cases hbad : qAt (qRs w.1) i = -9 ∨ ¬ (0 ≤ p ∧ p < w.1.1.length)
  · rw [if_pos hbad, if_pos (by omega)]
    refine qr_al rfl rfl (w := ?_)
    refine qr_il rfl rfl (w := ?_)
    refine qr_callP rfl (mIsRecord h hB hl) (qrcv1 kd_176) (w := ?_)
    refine qr_ifeqB rfl (fun hc => ?_) (fun hc => ?_)
    · refine qr_const rfl (w := ?_)
      refine qW_ireturn rfl ?_
      exact ⟨m, rfl, rfl, hM, qFr_rf⟩
    · refine qr_al rfl rfl (w := ?_)
      refine qr_il rfl rfl (w := ?_)
      refine qr_callP rfl (mIsPath h hB hl) (qrcv1 kd_176) (w := ?_)
      refine qr_ifneB rfl (fun hcf => ?_) (fun hcf => ?_)
      · exfalso
        simp only [decide_eq_true_eq, decide_eq_false_iff_not, ne_eq, Decidable.not_not] at *
        omega
      · refine qr_const rfl (w := ?_)
        refine qW_ireturn rfl ?_
        exact ⟨m, rfl, rfl, hM, qFr_rf⟩
  · rw [if_neg hbad]
    have h9 : qAt (qRs w.1) i ≠ -9 := fun e => hbad (Or.inl e)
    obtain ⟨q1, q2⟩ := qHas_lt h9
    obtain ⟨i, rfl⟩ : ∃ y : Nat, i = y := ⟨i.toNat, by omega⟩
    have hRi := hR i
    obtain ⟨v1, v2⟩ := hV i h9
    have hp : 0 ≤ p ∧ p < w.1.1.length := by omega
    have hfe : qGf w.1.2.1 (qAt (qRs w.1) i) = qFr' w.1 i := rfl
    have hpl := qLp_none (qFr' w.1 i) p 0 (Int.le_refl _)
    have hl5 := l5 i
    have hws : qWs w.1.1 (qFr' w.1 i) := qWs_gf hw.1 _
    have hP := qPth_of hw.1.1
    have hfs : ∀ f ∈ qGf w.1.2.1 (qAt (qRs w.1) i), (0 ≤ f ∧ 0 ≤ qPa f ∧ qPa f < w.1.1.length) ∧ qDp w.1.1 4 (qPa f) := fun f hf => ⟨hws.2.2.1 f hf, qNs_dp qPa_neg _ _ (qDp_9 3) hws.2.2.2.1 f hf⟩
    have hrl20 := (qRes_le w.1.1 p (qFr' w.1 i))
    have hf20 := hws.1
    have hdl := qDl_le w.1.1 p (qFr' w.1 i) (qGet w.1 i).2
    have K47 : (p ∈ qFr' w.1 i ∨ (100 + p) ∈ qFr' w.1 i) → ∀ (y4 y5 y6 y7 y8 : qA), qW m_Mo_drop 47 [qK 176, qI i, qI p, qI (qAt (qRs w.1) i), y4, y5, y6, y7, y8] [] (qT0, m, r) (fun y σ => ∃ m', σ = (qT0, m', r) ∧ y = qI (if ¬ (p ∈ qFr' w.1 i) ∧ ¬ (100 + p ∈ qFr' w.1 i) then -2 else if 40 ≤ qDsh w.1 i p then -3 else (qDsh w.1 i p : Nat)) ∧ qMo m' (if qAt (qRs w.1) i = -9 ∨ ¬ (0 ≤ p ∧ p < w.1.1.length) ∨ (¬ (p ∈ qFr' w.1 i) ∧ ¬ (100 + p ∈ qFr' w.1 i)) ∨ 40 ≤ qDsh w.1 i p then w else gAct w (aDrop w.1 i p)) ∧ qFr (qIv 176 188) m m') := by
      intro hmem y4 y5 y6 y7 y8
      have hnn : ¬ (¬ (p ∈ qFr' w.1 i) ∧ ¬ (100 + p ∈ qFr' w.1 i)) := fun e => hmem.elim e.1 e.2
      rw [if_neg hnn]
      refine qr_al rfl rfl (w := ?_)
      refine qr_gr rfl kd_176 (hr := (rf_8_0 h)) (w := ?_)
      refine qr_const rfl (w := ?_)
      refine qr_al rfl rfl (w := ?_)
      refine qr_gr rfl kd_176 (hr := (rf_8_3 h)) (w := ?_)
      refine qr_const rfl (w := ?_)
      refine qr_callV rfl (mCopies (f := 0) (t := 0) kd_177 kd_179 (by decide) (by omega) (by omega)) rfl (w := fun _ σ hσ => ?_)
      obtain ⟨m1, rfl, hc1, hG1⟩ := hσ
      refine qr_al rfl rfl (w := ?_)
      refine qr_const rfl (w := ?_)
      refine qr_pi rfl kd_176 (w := ?_)
      refine qr_const rfl (w := ?_)
      refine qr_is4 rfl (w := ?_)
      refine qr_const rfl (w := ?_)
      refine qr_is5 rfl (w := ?_)
      refine qr_const rfl (w := ?_)
      refine qr_is6 rfl (w := ?_)
      have hBs : qMb (m1 177) w.1 := by rw [qG_row hG1 (fun j e => by omega)]; exact hB
      have hB0 : qMb ((qup m1 176 18 0) 177) (qRc w.1 (w.1.2.2.2.set i (qAt (qRs w.1) i, (qGet w.1 i).2))) := by
        rw [qRc_self (by omega), show (qup m1 176 18 0) 177 = m1 177 from funext (fun j => qup_z (by decide))]
        exact hBs
      refine mDrop_loop h hl hP (by omega) (p := p) hp.1 (hd := qAt (qRs w.1) i) (by omega) (V := (qGet w.1 i).2) hl5 hfs l1 (qFr' w.1 i).length 0 0 [] [] (qGet w.1 i).2 y7 y8 _ (by rw [hfe]; omega) hB0 rfl rfl (Nat.le_refl _) (fun j _ => rfl) (by rw [List.drop_zero, hfe]; omega) ⟨qup_s, fun k g0 g1 => by simp at g1; omega⟩ (Nat.le_refl _) (fun m' leaf' V2 y7 y8 k1 k2 k3 k4 k5 => ?_)
      rw [List.drop_zero, List.drop_zero, List.nil_append, hfe] at k3 ⊢
      rw [List.drop_zero, List.nil_append, hfe] at k4
      have hl2 := qMl_rec (x := qAt (qRs w.1) i) hl (i := i) (by omega) (V := V2) (by omega)
      refine qr_al rfl rfl (w := ?_)
      refine qr_callA rfl (mFindsShape h k1 hl2 k4 (by omega)) (qrcv1 kd_176) (w := fun _ σ hσ => ?_)
      obtain ⟨m3, rfl, rfl, hB3, hG3⟩ := hσ
      have hsh : qFs (qRc w.1 (w.1.2.2.2.set i (qAt (qRs w.1) i, V2))).2.1 (qRes w.1.1 p (qFr' w.1 i)) 0 = qDsh w.1 i p := rfl
      rw [hsh] at hB3 ⊢
      have hq1 : ∀ a : Nat, a ≠ 177 → a ≠ 179 → a ≠ 187 → a ≠ 176 → m3 a = m a := fun a g1 g2 g3 g4 => (qG_row hG3 (fun j e => g1 e)).trans ((qG_row k5 (fun j e => by rcases e with e | e | e <;> omega)).trans ((funext (fun j => qup_z g4)).trans (qG_row hG1 (fun j e => g2 e.1))))
      have hq2 : ∀ j : Int, j ≠ 18 → m3 176 j = m 176 j := fun j g1 => (hG3 176 j (fun e => by omega)).trans ((k5 176 j (fun e => by rcases e with e | e | e <;> omega)).trans ((qup_i g1).trans (hG1 176 j (fun e => by omega))))
      have hq3 : m3 179 = m1 179 := (qG_row hG3 (fun j e => by omega)).trans ((qG_row k5 (fun j e => by rcases e with e | e | e <;> omega)).trans (funext (fun j => qup_z (by decide))))
      have hq4 : ∀ j : Int, 0 ≤ j → j < 1294 → m3 179 j = m 177 j := fun j g0 g1 => by rw [hq3]; have h8 := hc1 j g0 g1; rw [Int.zero_add] at h8; exact h8
      have hFr3 : qFr (qIv 176 188) m m3 := fun a ha => hq1 a (fun e => ha ⟨by omega, by omega⟩) (fun e => ha ⟨by omega, by omega⟩) (fun e => ha ⟨by omega, by omega⟩) (fun e => ha ⟨by omega, by omega⟩)
      refine qr_is6 rfl (w := ?_)
      refine qr_il rfl rfl (w := ?_)
      refine qr_const rfl (w := ?_)
      refine qr_icne rfl (fun hc => ?_) (fun hc => ?_)
      · refine qr_al rfl rfl (w := ?_)
        refine qr_al rfl rfl (w := ?_)
        refine qr_gr rfl kd_176 (hr := (rf_8_3 h)) (w := ?_)
        have hd40 : qDsh w.1 i p < 40 := by
          by_cases h40 : 40 ≤ qDsh w.1 i p
          · rw [if_pos h40] at hc
            exact absurd rfl hc
          · omega
        refine qr_callV rfl (mRecords (z := 179) (hs := w.2.1) (a := w.1) h kd_179 (by decide) (qMh_eq hH (hq2 2 (by decide)) (hq1 178 (by decide) (by decide) (by decide) (by decide))) w5 hls (qMb_eq hB hl hq4) hl) (qrcv1 kd_176) (w := fun _ σ hσ => ?_)
        obtain ⟨m4, rfl, hH4, hG4⟩ := hσ
        have e177 : m4 177 = m3 177 := qG_row hG4 (fun j e => by rcases e with e | e <;> omega)
        rw [if_neg (by omega)]
        refine qr_al rfl rfl (w := ?_)
        refine qr_gr rfl kd_176 (hr := (rf_8_0 h)) (w := ?_)
        refine qr_const rfl (w := ?_)
        refine qr_const rfl (w := ?_)
        refine qr_il rfl rfl (w := ?_)
        refine qr_mul rfl (by omega) (w := ?_)
        refine qr_add rfl (by omega) (w := ?_)
        refine qr_il rfl rfl (w := ?_)
        refine qr_ias rfl kd_177 (by omega) (w := ?_)
        refine qr_il rfl rfl (w := ?_)
        refine qW_ireturn rfl ?_
        have hnb : ¬ (qAt (qRs w.1) i = -9 ∨ ¬ (0 ≤ p ∧ p < w.1.1.length) ∨ (¬ (p ∈ qFr' w.1 i) ∧ ¬ (100 + p ∈ qFr' w.1 i)) ∨ 40 ≤ qDsh w.1 i p) := fun e => by
          rcases e with e | e | e | e
          · exact h9 e
          · exact e hp
          · exact hnn e
          · omega
        refine ⟨_, rfl, congrArg qI ?_, ?_, fun a ha => (funext (fun j => qup_z (fun e => ha ⟨by omega, by omega⟩))).trans ((qG_row hG4 (fun j e => ha (by rcases e with e | e <;> exact ⟨by omega, by omega⟩))).trans (hFr3 a ha))⟩
        · rw [if_neg (by omega)]
        · rw [if_neg hnb]
          refine qMo_iff.mpr ⟨?_, qMh_eq hH4 (qup_z (by decide)) (funext (fun j => qup_z (by decide))), qMt_eq hT ((qup_z (by decide)).trans ((hG4 176 5 (fun e => by rcases e with e | e <;> omega)).trans (hq2 5 (by decide)))) ((funext (fun j => qup_z (by decide))).trans ((qG_row hG4 (fun j e => by rcases e with e | e <;> omega)).trans (hq1 180 (by decide) (by decide) (by decide) (by decide))))⟩
          have hB4 := hB3 hd40
          have hl4 := qMl_sn hl2 (fs := qRes w.1.1 p (qFr' w.1 i)) (by omega) hd40
          have hDV : (qDl w.1.1 p (qFr' w.1 i) (qGet w.1 i).2).length ≤ V2.length := by
            have := congrArg List.length k3
            rw [List.length_take] at this
            omega
          have hsl : (w.1.2.2.2.set i (qAt (qRs w.1) i, V2)).length = w.1.2.2.2.length := List.length_set
          have hgi : ∀ ss, qGet (qSn (qRc w.1 (w.1.2.2.2.set i (qAt (qRs w.1) i, V2))) ss) i = (qAt (qRs w.1) i, V2) := fun ss => (qGet_set w.1 i i _ (by omega) (by omega)).trans (if_pos rfl)
          have hfin := qMb_rec (g' := (qup m4 177 (964 + 11 * i) (qDsh w.1 i p : Nat)) 177) (i := i) (x := (qDsh w.1 i p : Nat)) (V := qDl w.1.1 p (qFr' w.1 i) (qGet w.1 i).2) hB4 hl4 (by show i < (w.1.2.2.2.set i (qAt (qRs w.1) i, V2)).length; rw [hsl]; omega) (by omega) (fun j g0 g1 g2 => by rw [qup_i (by omega), e177]) qup_s (fun j hj => by
            rw [qup_i (by omega), e177, (hB4.2.2.2 i (by omega) (by show (i : Int) < (w.1.2.2.2.set i (qAt (qRs w.1) i, V2)).length; rw [hsl]; omega)).2 j (by omega) (by rw [hgi]; show (j : Int) < (V2.length : Nat); omega), qVv_get, hgi, Int.toNat_natCast]
            exact qTake_getD k3 hj)
          have hae : qRc (qSn (qRc w.1 (w.1.2.2.2.set i (qAt (qRs w.1) i, V2))) (qLs w.1.2.1 (qDsh w.1 i p) (qRes w.1.1 p (qFr' w.1 i)))) ((w.1.2.2.2.set i (qAt (qRs w.1) i, V2)).set i ((qDsh w.1 i p : Nat), qDl w.1.1 p (qFr' w.1 i) (qGet w.1 i).2)) = aDrop w.1 i p := by
            rw [List.set_set]
            rfl
          exact hae ▸ hfin
      · refine qr_al rfl rfl (w := ?_)
        refine qr_gr rfl kd_176 (hr := (rf_8_3 h)) (w := ?_)
        refine qr_const rfl (w := ?_)
        refine qr_al rfl rfl (w := ?_)
        refine qr_gr rfl kd_176 (hr := (rf_8_0 h)) (w := ?_)
        refine qr_const rfl (w := ?_)
        refine qr_callV rfl (mCopies (f := 0) (t := 0) kd_179 kd_177 (by decide) (by omega) (by omega)) rfl (w := fun _ σ hσ => ?_)
        obtain ⟨m4, rfl, hc4, hG4⟩ := hσ
        refine qr_const rfl (w := ?_)
        refine qW_ireturn rfl ?_
        have h40 : 40 ≤ qDsh w.1 i p := by
          by_cases h40 : 40 ≤ qDsh w.1 i p
          · exact h40
          · rw [if_neg h40] at hc
            omega
        refine ⟨m4, rfl, congrArg qI ?_, ?_, fun a ha => (qG_row hG4 (fun j e => ha ⟨by omega, by omega⟩)).trans (hFr3 a ha)⟩
        · rw [if_pos h40]
        · rw [if_pos (Or.inr (Or.inr (Or.inr h40)))]
          refine qMo_iff.mpr ⟨qMb_eq hB hl (fun j g0 g1 => ?_), qMh_eq hH ((hG4 176 2 (fun e => by omega)).trans (hq2 2 (by decide))) ((qG_row hG4 (fun j e => by omega)).trans (hq1 178 (by decide) (by decide) (by decide) (by decide))), qMt_eq hT ((hG4 176 5 (fun e => by omega)).trans (hq2 5 (by decide))) ((qG_row hG4 (fun j e => by omega)).trans (hq1 180 (by decide) (by decide) (by decide) (by decide)))⟩
          have h8 := hc4 j g0 g1
          rw [Int.zero_add] at h8
          exact h8.trans (hq4 j g0 g1)
    refine qr_al rfl rfl (w := ?_)
    refine qr_il rfl rfl (w := ?_)
    refine qr_callP rfl (mIsRecord h hB hl) (qrcv1 kd_176) (w := ?_)
    refine qr_ifeqB rfl (fun hc => absurd h9 (of_decide_eq_false hc)) (fun hc => ?_)
    refine qr_al rfl rfl (w := ?_)
    refine qr_il rfl rfl (w := ?_)
    refine qr_callP rfl (mIsPath h hB hl) (qrcv1 kd_176) (w := ?_)
    refine qr_ifneB rfl (fun hcf => ?_) (fun hcf => absurd hp (of_decide_eq_false hcf))
    refine qr_al rfl rfl (w := ?_)
    refine qr_il rfl rfl (w := ?_)
    refine qr_callP rfl (mShapeOf (i := i) h hB hl ⟨q1, q2⟩) (qrcv1 kd_176) (w := ?_)
    refine qr_is3 rfl (w := ?_)
    refine qr_al rfl rfl (w := ?_)
    refine qr_il rfl rfl (w := ?_)
    refine qr_il rfl rfl (w := ?_)
    refine qr_callP rfl (mLeafAt (s := qAt (qRs w.1) i) h hB hl (by omega)) (qrcv1 kd_176) (w := ?_)
    rw [hfe]
    refine qr_const rfl (w := ?_)
    refine qr_icne rfl (fun hcft => ?_) (fun hcft => ?_)
    · exact K47 (Or.inl (Classical.byContradiction (fun e => hcft (hpl.mpr e)))) _ _ _ _ _
    · refine qr_al rfl rfl (w := ?_)
      refine qr_il rfl rfl (w := ?_)
      refine qr_il rfl rfl (w := ?_)
      refine qr_callP rfl (mIsBranch (s := qAt (qRs w.1) i) (p := p) h hB hl (by omega) (by omega)) (qrcv1 kd_176) (w := ?_)
      rw [hfe]
      refine qr_ifneB rfl (fun hcftf => ?_) (fun hcftf => ?_)
      · exact K47 (Or.inr (of_decide_eq_true hcftf)) _ _ _ _ _
      · have n1 := hpl.mp hcft
        have n2 := of_decide_eq_false hcftf
        refine qr_const rfl (w := ?_)
        refine qW_ireturn rfl ⟨m, rfl, congrArg qI ?_, ?_, qFr_rf⟩
        · rw [if_pos ⟨n1, n2⟩]
        · rw [if_pos (Or.inr (Or.inr (Or.inl ⟨n1, n2⟩)))]
          exact hM
