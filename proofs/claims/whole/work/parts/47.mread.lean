/-! The reference's read, whole -/
variable {m : Nat → Int → Int} {r : Nat → Int → Option Nat}
theorem mRead (h : qE r) {w : qWd} (hM : qMo m w) (hw : qWW w) (hnd : w.1.1.Nodup) : qW m_Mo_read 0 [qK 176, none, none, none, none, none] [] (qT0, m, r) (fun y σ => ∃ m', σ = (qT0, m', r) ∧ y = qI (fRead w) ∧ qMo m' (gRead w) ∧ qFr (qIv 176 188) m m') := by
  have hB := hM.1
  have hl := qMl_of hw.1
  have hR := qRk_of hw.1
  have hV := qRv_of hw.1
  have hrl := qRs_len w.1
  obtain ⟨⟨b0, b1, b2, b3⟩, bp, bs, br⟩ := id hB
  obtain ⟨l1, l2, l3, l4, l5⟩ := id hl
  obtain ⟨-, mh, mp, mt, mx⟩ := id hM
  have w5 := hw.2.2.1
  have w80 := hw.2.2.2.1
  have wb := hw.1.2.2.2.1
  obtain ⟨-, hH, hT⟩ := qMo_iff.mp hM
  have hls : ∀ b ∈ w.2.1, qMl b := fun b hb => qMl_of (hw.2.1 b hb)
  have hJ0 : qRJ 0 (qSt0 w.1.1) := qRJ_0 hw.1.1 hnd
  have hFa := mFaultOf (m := m) (r := r) (tx := w.2.2) h w80 hT hJ0
  by_cases hb : qBd w.2.2 (qRun w)
  · have e1 : fRead w = -1000 - (qRun w).1 := by unfold fRead; rw [if_pos hb]
    have e2 : gRead w = w := by unfold gRead; rw [if_pos (Or.inl hb)]
    rw [e1, e2]
    have hgl := qGo_le w.2.2 (qSt0 w.1.1) 0
    have hgl : (qRun w).1 ≤ 0 + w.2.2.length := hgl.2
    refine qr_al rfl rfl (w := ?_)
    refine qr_callA rfl hFa (qrcv1 kd_176) (w := fun _ σ hσ => ?_)
    obtain ⟨m1, rfl, hG1, rfl, hP1⟩ := hσ
    rw [if_pos (show qBd w.2.2 (qGo w.2.2 (qSt0 w.1.1) 0) from hb)]
    show qW m_Mo_read 4 _ (qI ((qRun w).1 : Nat) :: List.drop _ _) (qT0, m1, r) _
    refine qr_is1 rfl (w := ?_)
    refine qr_il rfl rfl (w := ?_)
    refine qr_const rfl (w := ?_)
    refine qr_iceq rfl (fun hc => absurd hc (by omega)) (fun hc => ?_)
    refine qr_const rfl (w := ?_)
    refine qr_il rfl rfl (w := ?_)
    refine qr_sub rfl (by omega) (w := ?_)
    refine qW_ireturn rfl ?_
    refine ⟨m1, rfl, rfl, qMo_iff.mpr ⟨?_, qMh_eq hH (hG1 176 2 (fun e => by omega)) (qG_row hG1 (fun j e => by omega)), qMt_f hT hG1⟩, qFr_G hG1 (fun a j e => by omega)⟩
    rw [qG_row hG1 (fun j e => by omega)]
    exact hB
  · have hJ : qRJ w.2.2.length (qRun w).2 := by
      have hg1 : (qRun w).1 = w.2.2.length := by
        have hgl := qGo_le w.2.2 (qSt0 w.1.1) 0
        have hgl : (qRun w).1 ≤ 0 + w.2.2.length := hgl.2
        have := fun e => hb (Or.inl e)
        omega
      have h9 := qGo_J w80 w.2.2.length 0 (qSt0 w.1.1) (by omega) hJ0 (by rw [List.drop_zero]; exact hg1)
      rw [List.drop_zero] at h9
      exact h9
    have hpreP : w.1.1 <+: (qRun w).2.1 := qGo_pre w.2.2 (qSt0 w.1.1) 0
    have hst7 : (qRun w).2.2.2.2.1 = 7 := Classical.byContradiction (fun e => hb (Or.inr e))
    have hsh0 : qRsh w = qFs w.1.2.1 (qRun w).2.2.1 0 := rfl
    have hdef : ∀ hcap : 30 ≤ w.1.2.2.2.length ∨ 60 < (qRun w).2.1.length ∨ 40 ≤ qRsh w, fRead w = -3 ∧ gRead w = w := fun hcap => by
      unfold fRead gRead
      rw [if_neg hb, if_pos hcap, if_pos (Or.inr hcap)]
      exact ⟨rfl, rfl⟩
    have hdef2 : ¬ (30 ≤ w.1.2.2.2.length ∨ 60 < (qRun w).2.1.length ∨ 40 ≤ qRsh w) → fRead w = w.1.2.2.2.length ∧ gRead w = (aRead w, qPush w.2.1 w.1, []) := fun hcap => by
      unfold fRead gRead
      rw [if_neg hb, if_neg hcap, if_neg (fun e => e.elim hb hcap)]
      exact ⟨rfl, rfl⟩
    have haR : aRead w = qRa (qSn (qPp w.1 (qRun w).2.1) (qLs w.1.2.1 (qRsh w) (qRun w).2.2.1)) (qRsh w : Nat) (qRun w).2.2.2.1 := rfl
    obtain ⟨⟨P, fs, ns, st, lv, op, nm⟩, hR9⟩ : ∃ s, s = (qRun w).2 := ⟨_, rfl⟩
    have hP9 : qGo w.2.2 (qSt0 w.1.1) 0 = ((qRun w).1, (P, fs, ns, st, lv, op, nm)) := Prod.ext rfl hR9.symm
    rw [← hR9] at hJ hpreP hst7 hsh0 hdef hdef2 haR
    dsimp only at hpreP hst7 hsh0 hdef hdef2 haR
    subst hst7
    obtain ⟨f1, f2, f3, f4, f5, f6, f7⟩ := qRJ_facts hJ w80
    obtain ⟨⟨j0, j1⟩, j2, j3, j4, -, -, -, -, -⟩ := hJ
    dsimp only at j0 j1 j2 j3 j4
    have hfs : ∀ k : Nat, k < fs.length → 0 ≤ qPa (qAt fs k) ∧ qPa (qAt fs k) < P.length ∧ qPa (qAt fs k) < 100 ∧ (qAt fs k = qPa (qAt fs k) ∨ qAt fs k = 100 + qPa (qAt fs k)) := fun k hk => by
      have h9 := j2 fs[k] (List.getElem_mem _)
      rw [qAt_lt hk]
      refine ⟨h9.2.1, h9.2.2.1, by omega, ?_⟩
      unfold qPa
      split <;> omega
    have K58 : ∀ (m3 : Nat → Int → Int), (30 ≤ w.1.2.2.2.length ∨ 60 < P.length ∨ 40 ≤ qRsh w) → (∀ j : Int, 0 ≤ j → j < 1294 → m3 179 j = m 177 j) → m3 176 2 = m 176 2 → m3 178 = m 178 → m3 176 5 = m 176 5 → m3 180 = m 180 → qFr (qIv 176 188) m m3 → qW m_Mo_read 58 [qK 176, qI (-9), qI (-9), none, none, none] [] (qT0, m3, r) (fun y σ => ∃ m', σ = (qT0, m', r) ∧ y = qI (fRead w) ∧ qMo m' (gRead w) ∧ qFr (qIv 176 188) m m') := by
      intro m3 hcap c1 c2 c3 c4 c5 c6
      rw [(hdef hcap).1, (hdef hcap).2]
      refine qr_il rfl rfl (w := ?_)
      refine qr_const rfl (w := ?_)
      refine qr_icne rfl (fun hc => absurd hc (by omega)) (fun hc => ?_)
      refine qr_al rfl rfl (w := ?_)
      refine qr_gr rfl kd_176 (hr := (rf_8_3 h)) (w := ?_)
      refine qr_const rfl (w := ?_)
      refine qr_al rfl rfl (w := ?_)
      refine qr_gr rfl kd_176 (hr := (rf_8_0 h)) (w := ?_)
      refine qr_const rfl (w := ?_)
      refine qr_callV rfl (mCopies (f := 0) (t := 0) kd_179 kd_177 (by decide) (by omega) (by omega)) rfl (w := fun _ σ hσ => ?_)
      obtain ⟨m4, rfl, hc4, hG4⟩ := hσ
      refine qr_const rfl (w := ?_)
      refine qW_ireturn rfl ?_
      refine ⟨m4, rfl, rfl, qMo_iff.mpr ⟨qMb_eq hB hl (fun j g0 g1 => ?_), qMh_eq hH ((hG4 176 2 (fun e => by omega)).trans c2) ((qG_row hG4 (fun j e => by omega)).trans c3), qMt_eq hT ((hG4 176 5 (fun e => by omega)).trans c4) ((qG_row hG4 (fun j e => by omega)).trans c5)⟩, fun a ha => (qG_row hG4 (fun j e => ha ⟨by omega, by omega⟩)).trans (c6 a ha)⟩
      have h8 := hc4 j g0 g1
      rw [Int.zero_add] at h8
      exact h8.trans (c1 j g0 g1)
    refine qr_al rfl rfl (w := ?_)
    refine qr_callA rfl hFa (qrcv1 kd_176) (w := fun _ σ hσ => ?_)
    obtain ⟨m1, rfl, hG1, rfl, hP1⟩ := hσ
    rw [if_neg (show ¬ qBd w.2.2 (qGo w.2.2 (qSt0 w.1.1) 0) from hb)]
    have hP1 := hP1 hb
    rw [hP9] at hP1
    obtain ⟨y1, y2, y3, y4⟩ := qLa_of hP1
    refine qr_is1 rfl (w := ?_)
    refine qr_il rfl rfl (w := ?_)
    refine qr_const rfl (w := ?_)
    refine qr_iceq rfl (fun hc => ?_) (fun hc => absurd hc (by omega))
    refine qr_al rfl rfl (w := ?_)
    refine qr_gr rfl kd_176 (hr := (rf_8_0 h)) (w := ?_)
    refine qr_const rfl (w := ?_)
    refine qr_al rfl rfl (w := ?_)
    refine qr_gr rfl kd_176 (hr := (rf_8_3 h)) (w := ?_)
    refine qr_const rfl (w := ?_)
    refine qr_callV rfl (mCopies (f := 0) (t := 0) kd_177 kd_179 (by decide) (by omega) (by omega)) rfl (w := fun _ σ hσ => ?_)
    obtain ⟨m2, rfl, hc2, hG2⟩ := hσ
    have q177 : m2 177 = m 177 := (qG_row hG2 (fun j e => by omega)).trans (qG_row hG1 (fun j e => by omega))
    have q178 : m2 178 = m 178 := (qG_row hG2 (fun j e => by omega)).trans (qG_row hG1 (fun j e => by omega))
    have q180 : m2 180 = m 180 := (qG_row hG2 (fun j e => by omega)).trans (qG_row hG1 (fun j e => by omega))
    have q2 : m2 176 2 = m 176 2 := (hG2 176 2 (fun e => by omega)).trans (hG1 176 2 (fun e => by omega))
    have q5 : m2 176 5 = m 176 5 := (hG2 176 5 (fun e => by omega)).trans (hG1 176 5 (fun e => by omega))
    have q179 : ∀ j : Int, 0 ≤ j → j < 1294 → m2 179 j = m 177 j := fun j g0 g1 => by
      have h8 := hc2 j g0 g1
      rw [Int.zero_add] at h8
      rw [h8, qG_row hG1 (fun j e => by omega)]
    have qF : qFr (qIv 176 188) m m2 := fun a ha => (qG_row hG2 (fun j e => ha ⟨by omega, by omega⟩)).trans (qG_row hG1 (fun j e => ha ⟨by omega, by omega⟩))
    have hB2 : qMb (m2 177) w.1 := q177.symm ▸ hB
    have hA2 : qLa m2 P fs := by
      unfold qLa
      rw [qG_row hG2 (a := 183) (fun j e => by omega), qG_row hG2 (a := 184) (fun j e => by omega), qG_row hG2 (a := 185) (fun j e => by omega), hG2 176 12 (fun e => by omega)]
      exact y1
    have b0r : m2 177 0 = w.1.2.2.2.length := by rw [q177]; exact b0
    refine qr_al rfl rfl (w := ?_)
    refine qr_gr rfl kd_176 (hr := (rf_8_0 h)) (w := ?_)
    refine qr_const rfl (w := ?_)
    refine qr_ia rfl kd_177 (by omega) (w := ?_)
    rw [b0r]
    refine qr_const rfl (w := ?_)
    refine qr_icge rfl (fun hct => ?_) (fun hct => ?_)
    · refine qr_const rfl (w := ?_)
      refine qr_is2 rfl (w := ?_)
      exact K58 m2 (Or.inl (by omega)) q179 q2 q178 q5 q180 qF
    · refine qr_al rfl rfl (w := ?_)
      refine qr_callA rfl (mLaysPaths h hB2 hl hpreP j1 f5 hfs y2 y3 hA2) (qrcv1 kd_176) (w := fun x σ hσ => ?_)
      obtain ⟨m3, rfl, hG3, hx⟩ := hσ
      have p179 : m3 179 = m2 179 := qG_row hG3 (fun j e => by omega)
      have p178 : m3 178 = m2 178 := qG_row hG3 (fun j e => by omega)
      have p180 : m3 180 = m2 180 := qG_row hG3 (fun j e => by omega)
      have p185 : m3 185 = m2 185 := qG_row hG3 (fun j e => by omega)
      have p2 : m3 176 2 = m2 176 2 := hG3 176 2 (fun e => by omega)
      have p5 : m3 176 5 = m2 176 5 := hG3 176 5 (fun e => by omega)
      have p12 : m3 176 12 = m2 176 12 := hG3 176 12 (fun e => by omega)
      have pF : qFr (qIv 176 188) m m3 := fun a ha => (qG_row hG3 (fun j e => ha ⟨by omega, by omega⟩)).trans (qF a ha)
      rcases hx with ⟨rfl, hx1, hx2, hx3⟩ | ⟨rfl, hx1⟩
      · refine qr_ifeq rfl (fun e => absurd e (by decide)) (fun _ => ?_)
        refine qr_al rfl rfl (w := ?_)
        have hlP : qMl (qPp w.1 P) := ⟨hx1, hl.2.1, hl.2.2.1, hl.2.2.2.1, hl.2.2.2.2⟩
        refine qr_callA rfl (mFindsShape h hx2 hlP hx3 f5) (qrcv1 kd_176) (w := fun x σ hσ => ?_)
        obtain ⟨m4, rfl, rfl, hB4, hG4⟩ := hσ
        have hshx : qFs (qPp w.1 P).2.1 fs 0 = qRsh w := hsh0.symm
        rw [hshx] at hB4 ⊢
        have r177 : ∀ z : Nat, z ≠ 177 → m4 z = m3 z := fun z hz => qG_row hG4 (fun j e => hz e)
        have rF : qFr (qIv 176 188) m m4 := fun a ha => (r177 a (fun e => ha ⟨by omega, by omega⟩)).trans (pF a ha)
        by_cases h40 : 40 ≤ qRsh w
        · rw [if_pos h40]
          refine qr_goto rfl (w := ?_)
          refine qr_is2 rfl (w := ?_)
          exact K58 m4 (Or.inr (Or.inr h40)) (fun j g0 g1 => by rw [r177 179 (by decide), p179]; exact q179 j g0 g1) ((congrFun (r177 176 (by decide)) 2).trans (p2.trans q2)) ((r177 178 (by decide)).trans (p178.trans q178)) ((congrFun (r177 176 (by decide)) 5).trans (p5.trans q5)) ((r177 180 (by decide)).trans (p180.trans q180)) rF
        rw [if_neg h40]
        have hB4 := hB4 (by omega)
        have hcap : ¬ (30 ≤ w.1.2.2.2.length ∨ 60 < P.length ∨ 40 ≤ qRsh w) := by omega
        rw [(hdef2 hcap).1, (hdef2 hcap).2]
        refine qr_goto rfl (w := ?_)
        refine qr_is2 rfl (w := ?_)
        refine qr_il rfl rfl (w := ?_)
        refine qr_const rfl (w := ?_)
        refine qr_icne rfl (fun hc => ?_) (fun hc => absurd hc (by omega))
        refine qr_al rfl rfl (w := ?_)
        refine qr_al rfl rfl (w := ?_)
        refine qr_gr rfl kd_176 (hr := (rf_8_3 h)) (w := ?_)
        refine qr_callV rfl (mRecords (z := 179) (hs := w.2.1) (a := w.1) h kd_179 (by decide) (qMh_eq hH ((congrFun (r177 176 (by decide)) 2).trans (p2.trans q2)) ((r177 178 (by decide)).trans (p178.trans q178))) w5 hls (qMb_eq hB hl (fun j g0 g1 => by rw [r177 179 (by decide), p179]; exact q179 j g0 g1)) hl) (qrcv1 kd_176) (w := fun _ σ hσ => ?_)
        obtain ⟨m5, rfl, hH5, hG5⟩ := hσ
        have s177 : m5 177 = m4 177 := qG_row hG5 (fun j e => by rcases e with e | e <;> omega)
        have s180 : m5 180 = m4 180 := qG_row hG5 (fun j e => by rcases e with e | e <;> omega)
        have s185 : m5 185 = m4 185 := qG_row hG5 (fun j e => by rcases e with e | e <;> omega)
        have b05 : m5 177 0 = w.1.2.2.2.length := by rw [s177]; exact hB4.1.1
        have e12f : m5 176 12 = fs.length := (hG5 176 12 (fun e => by rcases e with e | e <;> omega)).trans ((congrFun (r177 176 (by decide)) 12).trans (p12.trans hA2.1))
        have hvl : qVl (m5 185) fs.length = ns := by rw [s185, r177 185 (by decide), p185, qG_row hG2 (a := 185) (fun j e => by omega)]; exact y4
        refine qr_al rfl rfl (w := ?_)
        refine qr_gr rfl kd_176 (hr := (rf_8_0 h)) (w := ?_)
        refine qr_const rfl (w := ?_)
        refine qr_ia rfl kd_177 (by omega) (w := ?_)
        rw [b05]
        refine qr_is3 rfl (w := ?_)
        refine qr_al rfl rfl (w := ?_)
        refine qr_gr rfl kd_176 (hr := (rf_8_0 h)) (w := ?_)
        refine qr_const rfl (w := ?_)
        refine qr_const rfl (w := ?_)
        refine qr_il rfl rfl (w := ?_)
        refine qr_mul rfl (by omega) (w := ?_)
        refine qr_add rfl (by omega) (w := ?_)
        refine qr_il rfl rfl (w := ?_)
        refine qr_ias rfl kd_177 (by omega) (w := ?_)
        refine qr_const rfl (w := ?_)
        refine qr_is4 rfl (w := ?_)
        refine qr_const rfl (w := ?_)
        refine qr_is5 rfl (w := ?_)
        have v185 : (qup m5 177 (964 + 11 * (w.1.2.2.2.length : Int)) (qRsh w : Nat)) 185 = m5 185 := funext (fun j => qup_z (by decide))
        refine mValues_loop (r := r) h (f := fs.length) (R := w.1.2.2.2.length) (L := ns) (y1 := qI (-9)) (y2 := qI (qRsh w : Nat)) (by omega) j3.2.1 fs.length 0 (qup m5 177 (964 + 11 * (w.1.2.2.2.length : Int)) (qRsh w : Nat)) (by omega) (by omega) ((qup_z (by decide)).trans e12f) (by rw [v185]; exact hvl) (fun j hj => absurd hj (Nat.not_lt_zero _)) (List.nil_prefix) (fun m7 k1 k2 => ?_)
        refine qr_al rfl rfl (w := ?_)
        refine qr_gr rfl kd_176 (hr := (rf_8_0 h)) (w := ?_)
        refine qr_const rfl (w := ?_)
        refine qr_dup2 rfl (w := ?_)
        refine qr_ia rfl kd_177 (by omega) (w := ?_)
        have b07 : m7 177 0 = w.1.2.2.2.length := (k2 177 0 (fun e => by omega)).trans ((qup_i (by omega)).trans b05)
        rw [b07]
        refine qr_const rfl (w := ?_)
        refine qr_add rfl (by omega) (w := ?_)
        refine qr_ias rfl kd_177 (by omega) (w := ?_)
        refine qr_al rfl rfl (w := ?_)
        refine qr_const rfl (w := ?_)
        refine qr_pi rfl kd_176 (w := ?_)
        refine qr_il rfl rfl (w := ?_)
        refine qW_ireturn rfl ?_
        refine ⟨_, rfl, rfl, qMo_iff.mpr ⟨?_, qMh_eq hH5 ?_ ?_, ⟨qup_s, fun k hk => by simp at hk⟩⟩, ?_⟩
        · show qMb _ (aRead w)
          rw [haR, show (qup (qup m7 177 0 ((w.1.2.2.2.length : Int) + 1)) 176 5 0) 177 = (qup m7 177 0 ((w.1.2.2.2.length : Int) + 1)) 177 from funext (fun j => qup_z (by decide))]
          have hl9 : qMl (qSn (qPp w.1 P) (qLs w.1.2.1 (qRsh w) fs)) := qMl_sn hlP f5 (by omega)
          refine qMb_add (x := (qRsh w : Nat)) (V := ns) hB4 hl9 (show w.1.2.2.2.length < 30 by omega) j3.2.1 (fun j g0 g1 g2 => ?_) qup_s ?_ (fun j hj => ?_)
          · have g2' : j < 964 + 11 * (w.1.2.2.2.length : Int) ∨ 964 + 11 * (w.1.2.2.2.length : Int) + 11 ≤ j := g2
            rw [qup_i (by omega), k2 177 j (fun e => by omega), qup_i (by omega), s177]
          · show (qup m7 177 0 ((w.1.2.2.2.length : Int) + 1)) 177 (964 + 11 * (w.1.2.2.2.length : Int)) = _
            rw [qup_i (by omega), k2 177 _ (fun e => by omega)]
            exact qup_s
          · show (qup m7 177 0 ((w.1.2.2.2.length : Int) + 1)) 177 (964 + 11 * (w.1.2.2.2.length : Int) + 1 + j) = _
            rw [qup_i (by omega)]
            exact k1 j hj
        · exact (qup_i (by decide)).trans ((qup_z (by decide)).trans ((k2 176 2 (fun e => by omega)).trans (qup_z (by decide))))
        · exact (funext (fun j => qup_z (by decide))).trans ((funext (fun j => qup_z (by decide))).trans ((qG_row k2 (fun j e => by omega)).trans (funext (fun j => qup_z (by decide)))))
        · intro a ha
          have ha1 : a ≠ 176 := fun e => ha ⟨by omega, by omega⟩
          have ha2 : a ≠ 177 := fun e => ha ⟨by omega, by omega⟩
          have ha3 : a ≠ 178 := fun e => ha ⟨by omega, by omega⟩
          exact (funext (fun j => qup_z ha1)).trans ((funext (fun j => qup_z ha2)).trans ((qG_row k2 (fun j e => ha2 e.1)).trans ((funext (fun j => qup_z ha2)).trans ((qG_row hG5 (fun j e => e.elim ha3 (fun e => ha1 e.1))).trans (rF a ha)))))
      · refine qr_ifeq rfl (fun _ => ?_) (fun e => absurd rfl e)
        refine qr_const rfl (w := ?_)
        refine qr_is2 rfl (w := ?_)
        exact K58 m3 (Or.inr (Or.inl hx1)) (fun j g0 g1 => by rw [p179]; exact q179 j g0 g1) (p2.trans q2) (p178.trans q178) (p5.trans q5) (p180.trans q180) pF
      
