/-! The class's read -/
variable {m : Nat → Int → Int} {r : Nat → Int → Option Nat}
def qSt0 (ps : List (Int × Int)) : qRd := (ps, [], [], 0, 0, -9, -9)
def qRun (w : qWd) : Nat × qRd := qGo w.2.2 (qSt0 w.1.1) 0
def qRsh (w : qWd) : Nat := qFs w.1.2.1 (qRun w).2.2.1 0
def fRead (w : qWd) : Int := if (qRun w).1 < w.2.2.length ∨ (qRun w).2.2.2.2.1 ≠ 7 then -1000 - (qRun w).1 else if 30 ≤ w.1.2.2.2.length ∨ 60 < (qRun w).2.1.length ∨ 40 ≤ qRsh w then -3 else w.1.2.2.2.length
def aRead (w : qWd) : qAS := ((qRun w).2.1, qLs w.1.2.1 (qRsh w) (qRun w).2.2.1, w.1.2.2.1, w.1.2.2.2 ++ [(((qRsh w : Nat) : Int), (qRun w).2.2.2.1)])
def gRead (w : qWd) : qWd := if ((qRun w).1 < w.2.2.length ∨ (qRun w).2.2.2.2.1 ≠ 7) ∨ (30 ≤ w.1.2.2.2.length ∨ 60 < (qRun w).2.1.length ∨ 40 ≤ qRsh w) then w else (aRead w, qPush w.2.1 w.1, [])
theorem qGo_le : ∀ (t : List Int) (s : qRd) (a : Nat), a ≤ (qGo t s a).1 ∧ (qGo t s a).1 ≤ a + t.length := by
  intro t
  induction t with
  | nil => intro s a; simp [qGo]
  | cons c t ih =>
    intro s a
    simp only [qGo, List.length_cons]
    split
    · have := ih (qTk s c).2 (a + 1)
      omega
    · dsimp only
      omega
theorem qTk_pre (s : qRd) (c : Int) : s.1 <+: (qTk s c).2.1 := by
  obtain ⟨ps, fs, ns, st, lv, op, nm⟩ := s
  have hl : ∀ ps', ps <+: qAd ps c ps' := fun u => (qAd_spec ps c u).1
  have h0 : ∀ br, ps <+: (qOpn (ps, fs, ns, st, lv, op, nm) c br).2.1 := fun br => by
    simp only [qOpn]
    split <;> exact List.prefix_refl _
  have h1 : ps <+: (qLet (ps, fs, ns, st, lv, op, nm) c).2.1 := by
    simp only [qLet]
    split
    · exact List.prefix_refl _
    · exact hl op
  have h2 : ps <+: (qEnd (ps, fs, ns, st, lv, op, nm) c).2.1 := by
    simp only [qEnd]
    split <;> exact List.prefix_refl _
  have h3 : ps <+: (qDg1 (ps, fs, ns, st, lv, op, nm) c).2.1 := by
    simp only [qDg1]
    split <;> exact List.prefix_refl _
  have h4 : ps <+: (qDg2 (ps, fs, ns, st, lv, op, nm) c).2.1 := by
    simp only [qDg2]
    split <;> exact List.prefix_refl _
  unfold qTk
  repeat' split
  all_goals first
    | exact List.prefix_refl _
    | exact h0 _
    | exact h1
    | exact h2
    | exact h3
    | exact h4
theorem qGo_pre : ∀ (t : List Int) (s : qRd) (a : Nat), s.1 <+: (qGo t s a).2.1 := by
  intro t
  induction t with
  | nil => intro s a; exact List.prefix_refl _
  | cons c t ih =>
    intro s a
    simp only [qGo]
    split
    · exact (qTk_pre s c).trans (ih _ _)
    · exact qTk_pre s c
theorem qPad_at {ns : List Int} {j : Nat} (h : j < 10) : (qPad ns 10).getD j 0 = qAt ns j := by
  unfold qPad
  rw [List.getD_eq_getElem?_getD, List.getElem?_map, List.getElem?_range h]
  rfl
/-- a record is added behind the others -/
theorem qVr_add {rc : List (Int × List Int)} {vs ns : List Int} {x : Int} (hV : ∀ (j : Nat) (h : j < rc.length), qVr vs j rc[j].2) (hl : ∀ c ∈ rc, c.2.length ≤ 10) (hv : vs.length = 10 * rc.length) (hn : ns.length ≤ 10) : ∀ (j : Nat) (h : j < (rc ++ [(x, ns)]).length), qVr (vs ++ qPad ns 10) j (rc ++ [(x, ns)])[j].2 := by
  intro j hj
  rw [List.length_append] at hj
  simp only [List.length_cons, List.length_nil] at hj
  have happ : ∀ b : Int, b < vs.length → qAt (vs ++ qPad ns 10) b = qAt vs b := fun b hb => by
    unfold qAt
    rw [List.length_append]
    by_cases h0 : 0 ≤ b
    · rw [if_pos ⟨h0, by omega⟩, if_pos ⟨h0, hb⟩, List.getD_eq_getElem?_getD, List.getElem?_append_left (by omega), List.getD_eq_getElem?_getD]
    · rw [if_neg (by omega), if_neg (by omega)]
  by_cases h : j < rc.length
  · rw [List.getElem_append_left h]
    intro k hk
    have h10 := hl rc[j] (List.getElem_mem _)
    rw [happ _ (by omega)]
    exact hV j h k hk
  · have e : j = rc.length := by omega
    subst e
    rw [List.getElem_append_right (Nat.le_refl _)]
    simp only [Nat.sub_self, List.getElem_cons_zero]
    intro k hk
    have hpl := qPad_len ns 10
    unfold qAt
    rw [List.length_append, if_pos ⟨by omega, by omega⟩, List.getD_eq_getElem?_getD, List.getElem?_append_right (by omega), ← List.getD_eq_getElem?_getD]
    rw [show (10 * (rc.length : Int) + k).toNat - vs.length = k by omega, qPad_at (by omega), qAt_lt hk, List.getD_eq_getElem?_getD, List.getElem?_eq_getElem hk]
    rfl
theorem cLR_read {w : qWd} (hC : qCp m r w) (hw : qWW w) (hnd : w.1.1.Nodup) : qW m_LR_read 0 [qK 0, none, none] [] (qT0, m, r) (fun x σ => ∃ m' r', σ = (qT0, m', r') ∧ x = qI (fRead w) ∧ qCp m' r' (gRead w) ∧ qFr (qIv 0 176) m m') := by
  obtain ⟨P, f, vs, hs, rd, l3, g, hC0⟩ := hC
  have hwA := hw.1
  have hC1 := hC0
  obtain ⟨h, hHr, hN, hpre, hRg, hrd, hTx, hL3, hG, hHc, hHl, hHs⟩ := hC1
  have hn := hN.1
  have hS := hN.2.1
  have e2 := hn.2.2.1
  have h40 := hS.1
  have hrl := qRs_len w.1
  have h80 := hw.2.2.2.1
  have hcut : rd.1.take w.1.1.length = w.1.1 := by
    rw [hrd]
    exact (List.prefix_iff_eq_take.mp hpre).symm
  have hJ0 : qRJ 0 (qSt0 w.1.1) := qRJ_0 hwA.1 hnd
  have hgl := qGo_le w.2.2 (qSt0 w.1.1) 0
  have hgp : w.1.1 <+: (qRun w).2.1 := qGo_pre w.2.2 (qSt0 w.1.1) 0
  have hn5 : ∀ a, ¬ qIv 5 16 a ↔ (a < 5 ∨ 16 ≤ a) := by intro a; show ¬ (5 ≤ a ∧ a < 16) ↔ _; omega
  unfold fRead gRead
  refine qr_al rfl rfl (w := ?_)
  refine qr_gr rfl kd_0 (hr := (rf_7_2 h)) (w := ?_)
  refine qr_al rfl rfl (w := ?_)
  refine qr_gr rfl kd_0 (hr := (rf_7_6 h)) (w := ?_)
  refine qr_gi rfl kd_144 (w := ?_)
  rw [e2]
  refine qr_callV rfl (sRdg_begin (ps := rd.1) (fs := rd.2.1) (ns := rd.2.2.1) (st := rd.2.2.2.1) (lv := rd.2.2.2.2.1) (op := rd.2.2.2.2.2.1) (nm := rd.2.2.2.2.2.2) (k := w.1.1.length) h hRg) (qrcv1 kd_5) (w := fun _ σ hσ => ?_)
  obtain ⟨m1, rfl, hRg1, hf1⟩ := hσ
  rw [hcut] at hRg1
  have hTx1 := qRw_fr hTx hf1 (by decide) (by decide)
  refine qr_al rfl rfl (w := ?_)
  refine qr_callA rfl (sLR_takeText (I := qRJ) h h80 (fun i s hI hi => qRJ_pre hI (by omega)) (fun i s hi hI ht => qRJ_step (by omega) hI ht) (s := qSt0 w.1.1) hJ0 hTx1 hRg1) (qrcv1 kd_0) (w := fun _ σ hσ => ?_)
  obtain ⟨m2, rfl, rfl, hRg2, hf2⟩ := hσ
  have hRg2 : qRg m2 (qRun w).2 := hRg2
  show qW m_LR_read 18 [qK 0, none, none] (qI ((qRun w).1 : Nat) :: List.drop _ _) (qT0, m2, r) _
  have hrl0 : (qRun w).1 ≤ w.2.2.length := by have h9 : (qRun w).1 ≤ 0 + w.2.2.length := hgl.2; omega
  have F12 := qFr_tr hf1 hf2
  have hTx2 := qRw_fr hTx F12 (by decide) (by decide)
  have hC2 : qCl0 m2 r w (qRun w).2.1 f vs hs (qRun w).2 l3 g := ⟨h, hHr, ⟨qSc_fr hn F12 (fun a g1 g2 => (hn5 a).mpr (by omega)), qSh_fr hS F12 (fun a g1 g2 => (hn5 a).mpr (by omega)), hN.2.2⟩, hgp, hRg2, rfl, hTx2, qRw_fr hL3 F12 (by decide) (by decide), qFm_fr hG F12 (by decide) (by decide) (by decide), qHc_fr hHr hHc F12 (fun a g1 g2 => (hn5 a).mpr (by omega)), hHl, hHs⟩
  refine qr_is1 rfl (w := ?_)
  refine qr_il rfl rfl (w := ?_)
  refine qr_al rfl rfl (w := ?_)
  refine qr_gr rfl kd_0 (hr := (rf_7_0 h)) (w := ?_)
  refine qr_callP rfl (sRow_len (kText h) hTx2) (qrcv1 (kText h).1) (w := ?_)
  refine qr_iclt rfl (fun hc => ?_) (fun hc => ?_)
  · refine qr_const rfl (w := ?_)
    refine qr_il rfl rfl (w := ?_)
    refine qr_sub rfl (by omega) (w := ?_)
    have hbad : (qRun w).1 < w.2.2.length ∨ (qRun w).2.2.2.2.1 ≠ 7 := Or.inl (by omega)
    refine qW_ireturn rfl ⟨m2, r, rfl, congrArg qI ?_, ?_, qFr_mo F12 (fun a ha => ⟨by omega, by have := ha.2; omega⟩)⟩
    · rw [if_pos hbad]
    · rw [if_pos (Or.inl hbad)]
      exact ⟨_, f, vs, hs, _, l3, g, hC2⟩
  · refine qr_al rfl rfl (w := ?_)
    refine qr_gr rfl kd_0 (hr := (rf_7_2 h)) (w := ?_)
    refine qr_callP rfl (sRdg_isComplete (ps := (qRun w).2.1) (fs := (qRun w).2.2.1) (ns := (qRun w).2.2.2.1) (st := (qRun w).2.2.2.2.1) (lv := (qRun w).2.2.2.2.2.1) (op := (qRun w).2.2.2.2.2.2.1) (nm := (qRun w).2.2.2.2.2.2.2) h hRg2) (qrcv1 kd_5) (w := ?_)
    refine qr_ifneB rfl (fun hcf => ?_) (fun hcf => ?_)
    · refine qr_al rfl rfl (w := ?_)
      refine qr_gr rfl kd_0 (hr := (rf_7_4 h)) (w := ?_)
      refine qr_al rfl rfl (w := ?_)
      refine qr_gr rfl kd_0 (hr := (rf_7_2 h)) (w := ?_)
      refine qr_gr rfl kd_5 (hr := (rf_3_1 h)) (w := ?_)
      refine qr_al rfl rfl (w := ?_)
      refine qr_gr rfl kd_0 (hr := (rf_7_6 h)) (w := ?_)
      refine qr_gi rfl kd_144 (w := ?_)
      have hC3 := hC2
      obtain ⟨-, -, hN2, -, -, -, -, -, hG2, -, -, -⟩ := hC3
      have hN2 : qNw m2 w.1 vs := hN2
      have hFm2 : qFm m2 11 (qRun w).2.2.1 := hRg2.2.1
      have hPh2 : qPh m2 6 (qRun w).2.1 := hRg2.1
      rw [hN2.1.2.2.2.1]
      refine qr_callP rfl (sShapes_numberFor h hN2.2.1 (kForm h) hFm2) (qrcv1 kd_16) (w := ?_)
      show qW m_LR_read 67 _ (qI ((qRsh w : Nat) : Int) :: List.drop _ _) (qT0, m2, r) _
      have hshl : qRsh w ≤ 0 + w.1.2.1.length := (qFs_le w.1.2.1 (qRun w).2.2.1 0).2
      refine qr_is2 rfl (w := ?_)
      refine qr_al rfl rfl (w := ?_)
      refine qr_gr rfl kd_0 (hr := (rf_7_6 h)) (w := ?_)
      refine qr_callP rfl (sState_recordsRead (kState h) hN2.1) (qrcv1 kd_144) (w := ?_)
      rw [hrl]
      refine qr_const rfl (w := ?_)
      refine qr_icge rfl (fun hcft => ?_) (fun hcft => ?_)
      · refine qr_const rfl (w := ?_)
        have hgood : ¬ ((qRun w).1 < w.2.2.length ∨ (qRun w).2.2.2.2.1 ≠ 7) := fun e => by
          rcases e with e | e
          · omega
          · exact e (of_decide_eq_true hcf)
        have hcap : 30 ≤ w.1.2.2.2.length ∨ 60 < (qRun w).2.1.length ∨ 40 ≤ qRsh w := by omega
        refine qW_ireturn rfl ⟨m2, r, rfl, congrArg qI ?_, ?_, qFr_mo F12 (fun a ha => ⟨by omega, by have := ha.2; omega⟩)⟩
        · rw [if_neg hgood, if_pos hcap]
        · rw [if_pos (Or.inr hcap)]
          exact ⟨_, f, vs, hs, _, l3, g, hC2⟩
      · refine qr_al rfl rfl (w := ?_)
        refine qr_gr rfl kd_0 (hr := (rf_7_3 h)) (w := ?_)
        refine qr_callP rfl (sPaths_size (kPaths h) hPh2) (qrcv1 kd_6) (w := ?_)
        refine qr_const rfl (w := ?_)
        refine qr_icgt rfl (fun hcftf => ?_) (fun hcftf => ?_)
        · refine qr_const rfl (w := ?_)
          have hgood : ¬ ((qRun w).1 < w.2.2.length ∨ (qRun w).2.2.2.2.1 ≠ 7) := fun e => by
            rcases e with e | e
            · omega
            · exact e (of_decide_eq_true hcf)
          have hcap : 30 ≤ w.1.2.2.2.length ∨ 60 < (qRun w).2.1.length ∨ 40 ≤ qRsh w := by omega
          refine qW_ireturn rfl ⟨m2, r, rfl, congrArg qI ?_, ?_, qFr_mo F12 (fun a ha => ⟨by omega, by have := ha.2; omega⟩)⟩
          · rw [if_neg hgood, if_pos hcap]
          · rw [if_pos (Or.inr hcap)]
            exact ⟨_, f, vs, hs, _, l3, g, hC2⟩
        · refine qr_il rfl rfl (w := ?_)
          refine qr_const rfl (w := ?_)
          refine qr_iclt rfl (fun hcftff => ?_) (fun hcftff => ?_)
          · refine qr_al rfl rfl (w := ?_)
            refine qr_gr rfl kd_0 (hr := (rf_7_7 h)) (w := ?_)
            refine qr_al rfl rfl (w := ?_)
            refine qr_gr rfl kd_0 (hr := (rf_7_6 h)) (w := ?_)
            refine qr_callV rfl (cKeep hC2) (qrcv1 kd_149) (w := fun _ σ hσ => ?_)
            obtain ⟨m3, r1, f1, hs1, rfl, hK, hf3⟩ := hσ
            have hK0 := hK
            obtain ⟨h, hHr3, hN3, hpre3, hRg3, hrd3, hTx3, hL33, hG3, hHc3, hHl3, hHs3⟩ := hK
            have hN3 : qNw m3 w.1 vs := hN3
            have hTx3 : qRw m3 1 w.2.2 := hTx3
            have hPh3 : qPh m3 6 (qRun w).2.1 := hRg3.1
            have hFm3 : qFm m3 11 (qRun w).2.2.1 := hRg3.2.1
            have hNs3 : qRw m3 14 (qRun w).2.2.2.1 := hRg3.2.2.1
            have hn3 := hN3.1
            refine qr_al rfl rfl (w := ?_)
            refine qr_gr rfl kd_0 (hr := (rf_7_6 h)) (w := ?_)
            refine qr_al rfl rfl (w := ?_)
            refine qr_gr rfl kd_0 (hr := (rf_7_3 h)) (w := ?_)
            refine qr_callP rfl (sPaths_size (kPaths h) hPh3) (qrcv1 kd_6) (w := ?_)
            refine qr_pi rfl kd_144 (w := ?_)
            refine qr_al rfl rfl (w := ?_)
            refine qr_il rfl rfl (w := ?_)
            refine qr_al rfl rfl (w := ?_)
            refine qr_gr rfl kd_0 (hr := (rf_7_2 h)) (w := ?_)
            refine qr_gr rfl kd_5 (hr := (rf_3_1 h)) (w := ?_)
            have up : qFr (fun a => a = 144) m3 (qup m3 144 2 ((qRun w).2.1.length : Nat)) := qFr_up rfl
            have hn4 : qSc (qup m3 144 2 ((qRun w).2.1.length : Nat)) 144 (qRs w.1) vs ((qRun w).2.1.length : Nat) w.1.2.1.length w.1.2.2.1 := ⟨qRw_fr hn3.1 up (by decide) (by decide), qRw_fr hn3.2.1 up (by decide) (by decide), qup_s, by rw [qup_i (by decide)]; exact hn3.2.2.2.1, by rw [qup_i (by decide)]; exact hn3.2.2.2.2.1, hn3.2.2.2.2.2⟩
            have hS4 := qSh_fr hN3.2.1 up (fun a g1 g2 => by omega)
            have hFm4 := qFm_fr hFm3 up (by decide) (by decide) (by decide)
            refine qr_callV rfl (sLR_learnShape (sh := qRsh w) h hn4 hS4 (kForm h) hFm4 (by omega) (fun e => by omega)) (qrcv1 kd_0) (w := fun _ σ hσ => ?_)
            obtain ⟨m5, rfl, hn5x, hS5, hf5⟩ := hσ
            have F45 : qFr (fun a => (18 ≤ a ∧ a < 138) ∨ a = 144) m3 m5 := qFr_tr (qFr_mo up (fun a ha => Or.inr ha)) hf5
            have hTx5 := qRw_fr hTx3 F45 (by omega) (by omega)
            refine qr_al rfl rfl (w := ?_)
            refine qr_gr rfl kd_0 (hr := (rf_7_0 h)) (w := ?_)
            refine qr_const rfl (w := ?_)
            refine qr_callV rfl (sRow_cut (k := 0) (kText h) hTx5) (qrcv1 (kText h).1) (w := fun _ σ hσ => ?_)
            obtain ⟨m6, rfl, hT6, hf6⟩ := hσ
            rw [List.take_zero] at hT6
            have hn6 := qSc_fr hn5x hf6 (fun a g1 g2 => by omega)
            have F46 : qFr (fun a => ((18 ≤ a ∧ a < 138) ∨ a = 144) ∨ a = 1) m3 m6 := qFr_tr (qFr_mo F45 (fun a ha => Or.inl ha)) (qFr_mo hf6 (fun a ha => Or.inr ha))
            have hNs6 := qRw_fr hNs3 F46 (by omega) (by omega)
            refine qr_al rfl rfl (w := ?_)
            refine qr_gr rfl kd_0 (hr := (rf_7_6 h)) (w := ?_)
            refine qr_il rfl rfl (w := ?_)
            refine qr_al rfl rfl (w := ?_)
            refine qr_gr rfl kd_0 (hr := (rf_7_2 h)) (w := ?_)
            refine qr_gr rfl kd_5 (hr := (rf_3_2 h)) (w := ?_)
            refine qr_callA rfl (sState_addRecord (sh := (qRsh w : Nat)) (kState h) hn6 (kNums h) hRg3.2.2.2.1 hNs6 (by omega) (by omega)) (qrcv1 kd_144) (w := fun _ σ hσ => ?_)
            obtain ⟨m7, rfl, rfl, hn7, hf7⟩ := hσ
            refine qW_ireturn rfl ?_
            have hgood : ¬ ((qRun w).1 < w.2.2.length ∨ (qRun w).2.2.2.2.1 ≠ 7) := fun e => by
              rcases e with e | e
              · omega
              · exact e (of_decide_eq_true hcf)
            have hcap : ¬ (30 ≤ w.1.2.2.2.length ∨ 60 < (qRun w).2.1.length ∨ 40 ≤ qRsh w) := by omega
            have F37 : qFr (fun a => (((18 ≤ a ∧ a < 138) ∨ a = 144) ∨ a = 1) ∨ (145 ≤ a ∧ a < 149)) m3 m7 := qFr_tr (qFr_mo F46 (fun a ha => Or.inl ha)) (qFr_mo hf7 (fun a ha => Or.inr ⟨by have := ha.1; omega, by have := ha.2; omega⟩))
            have F57 : qFr (fun a => a = 1 ∨ (145 ≤ a ∧ a < 149)) m5 m7 := qFr_tr (qFr_mo hf6 (fun a ha => Or.inl ha)) (qFr_mo hf7 (fun a ha => Or.inr ⟨by have := ha.1; omega, by have := ha.2; omega⟩))
            have hq : qRs (aRead w) = qRs w.1 ++ [((qRsh w : Nat) : Int)] := by
              show (w.1.2.2.2 ++ [_]).map Prod.fst = _
              rw [List.map_append]
              rfl
            refine ⟨m7, r1, rfl, congrArg qI ?_, ?_, qFr_tr (qFr_mo F12 (fun a ha => ⟨by omega, by have := ha.2; omega⟩)) (qFr_tr (qFr_mo hf3 (fun a ha => ⟨by omega, ha.2⟩)) (qFr_mo F37 (fun a ha => ⟨by omega, by omega⟩)))⟩
            · rw [if_neg hgood, if_neg hcap, hrl]
            · rw [if_neg (fun e => e.elim hgood hcap)]
              refine ⟨(qRun w).2.1, f1, vs ++ qPad (qRun w).2.2.2.1 10, hs1, (qRun w).2, l3, g, h, hHr3, ⟨?_, ?_, ?_⟩, List.prefix_refl _, qRg_fr hRg3 F37 (fun a g1 g2 => by omega), rfl, qRw_fr hT6 hf7 (by decide) (by decide), qRw_fr hL33 F37 (by omega) (by omega), qFm_fr hG3 F37 (by omega) (by omega) (by omega), qHc_fr hHr3 hHc3 F37 (fun a g1 g2 => by omega), hHl3, hHs3⟩
              · rw [hq]
                exact hn7
              · exact qSh_fr hS5 F57 (fun a g1 g2 => by omega)
              · exact qVr_add hN3.2.2 (fun rc hrc => (hwA.2.2.2.2.2 rc hrc).1) (by have h9 := hn3.2.2.2.2.2.2; omega) hRg3.2.2.2.1
          · refine qr_const rfl (w := ?_)
            have hgood : ¬ ((qRun w).1 < w.2.2.length ∨ (qRun w).2.2.2.2.1 ≠ 7) := fun e => by
              rcases e with e | e
              · omega
              · exact e (of_decide_eq_true hcf)
            have hcap : 30 ≤ w.1.2.2.2.length ∨ 60 < (qRun w).2.1.length ∨ 40 ≤ qRsh w := by omega
            refine qW_ireturn rfl ⟨m2, r, rfl, congrArg qI ?_, ?_, qFr_mo F12 (fun a ha => ⟨by omega, by have := ha.2; omega⟩)⟩
            · rw [if_neg hgood, if_pos hcap]
            · rw [if_pos (Or.inr hcap)]
              exact ⟨_, f, vs, hs, _, l3, g, hC2⟩
    · refine qr_const rfl (w := ?_)
      refine qr_il rfl rfl (w := ?_)
      refine qr_sub rfl (by omega) (w := ?_)
      have hbad : (qRun w).1 < w.2.2.length ∨ (qRun w).2.2.2.2.1 ≠ 7 := Or.inr (of_decide_eq_false hcf)
      refine qW_ireturn rfl ⟨m2, r, rfl, congrArg qI ?_, ?_, qFr_mo F12 (fun a ha => ⟨by omega, by have := ha.2; omega⟩)⟩
      · rw [if_pos hbad]
      · rw [if_pos (Or.inl hbad)]
        exact ⟨_, f, vs, hs, _, l3, g, hC2⟩
