/-! The class against the abstract world; its methods that change nothing -/
variable {m : Nat → Int → Int} {r : Nat → Int → Option Nat}
def qCn (c : qSC) (a : qAS) : Prop := c.1 = qRs a ∧ (∀ (i : Nat) (h : i < a.2.2.2.length), qVr c.2.1 i a.2.2.2[i].2) ∧ c.2.2.1 = a.1.length ∧ c.2.2.2.1 = a.2.1.length ∧ c.2.2.2.2 = a.2.2.1
/-- the class's cells hold the world w (now, history, text) -/
def qCl0 (m : Nat → Int → Int) (r : Nat → Int → Option Nat) (w : qWd) (P : List (Int × Int)) (f : Nat → Nat) (vs : List Int) (hs : List qSC) (rd : qRd) (l3 g : List Int) : Prop :=
  qE r ∧ qHr r f ∧ qNw m w.1 vs ∧ w.1.1 <+: P ∧ qRg m rd ∧ rd.1 = P ∧ qRw m 1 w.2.2 ∧ qRw m 3 l3 ∧ qFm m 141 g ∧ qHc m f hs ∧ hs.length = w.2.1.length ∧ ∀ (i : Nat) (h : i < hs.length) (h' : i < w.2.1.length), qCn hs[i] w.2.1[i]
def qCp (m : Nat → Int → Int) (r : Nat → Int → Option Nat) (w : qWd) : Prop := ∃ P f vs hs rd l3 g, qCl0 m r w P f vs hs rd l3 g
def qPre (a b : qAS) : Prop := a.1 <+: b.1 ∧ a.2.1 <+: b.2.1
/-- the world is well formed -/
def qWW (w : qWd) : Prop := qWA w.1 ∧ (∀ a ∈ w.2.1, qWA a) ∧ w.2.1.length ≤ 5 ∧ w.2.2.length ≤ 80 ∧ (w.2.1 ++ [w.1]).Pairwise qPre
/-- only the line was written -/
theorem qCl0_line {m' : Nat → Int → Int} {w : qWd} {P : List (Int × Int)} {f : Nat → Nat} {vs : List Int} {hs : List qSC} {rd : qRd} {l3 g l : List Int} (h : qCl0 m r w P f vs hs rd l3 g) (hl : qRw m' 3 l) (hf : qFr (qPz 3) m m') : qCl0 m' r w P f vs hs rd l g := by
  obtain ⟨h1, h2, ⟨h3, h4, h5⟩, h6, h7, h8, h9, h10, h11, h12, h13⟩ := h
  have nn : ∀ a, 5 ≤ a → ¬ qPz 3 a := by intro a ha; show ¬ (a = 3 ∨ a = 4); omega
  exact ⟨h1, h2, ⟨qSc_fr h3 hf (fun a g1 g2 => nn a (by omega)), qSh_fr h4 hf (fun a g1 g2 => nn a (by omega)), h5⟩, h6, qRg_fr h7 hf (fun a g1 g2 => nn a g1), h8, qRw_fr h9 hf (by decide) (by decide), hl, qFm_fr h11 hf (nn _ (by omega)) (nn _ (by omega)) (nn _ (by omega)), qHc_fr h2 h12 hf (fun a g1 g2 => nn a (by omega)), h13⟩
def qNvA (a : qAS) (i lf : Int) : List Int := qNum (qVv a i lf)
def fCount (w : qWd) (x : Int) : Int :=
  if x = 0 then qNe (qRs w.1) else if x = 1 then w.1.2.2.2.length else if x = 2 then w.1.1.length else if x = 3 then w.1.2.1.length else if x = 4 then qCom (qRs w.1) w.1.2.1.length w.1.2.2.1
  else if x = 5 then qRar (qRs w.1) w.1.2.1.length w.1.2.2.1 else if x = 6 then qSz (qRs w.1) w.1.2.1 w.1.2.2.1 else if x = 7 then w.1.2.2.1 else if x = 8 then w.2.1.length else if x = 9 then w.2.2.length else -1
def fRecord (w : qWd) (i x : Int) : Int :=
  if qAt (qRs w.1) i = -9 then -1 else if x = 0 then qAt (qRs w.1) i else if x = 1 then qLv (qFr' w.1 i) else if x = 2 then (qFr' w.1 i).length - qLv (qFr' w.1 i) else if x = 3 then (qText w.1.1 (qNvA w.1 i) (qFr' w.1 i)).length else if x = 4 then qSm (qLv (qFr' w.1 i)).toNat 0 (fun j => qVv w.1 i j) else -1
def fCharacter (w : qWd) (i k : Int) : Int := if qAt (qRs w.1) i = -9 ∨ k < 0 then -1 else qAt (qText w.1.1 (qNvA w.1 i) (qFr' w.1 i)) k
def fValue (w : qWd) (i p : Int) : Int := if qAt (qRs w.1) i = -9 ∨ ¬ (0 ≤ p ∧ p < w.1.1.length) then -1 else if qLp (qFr' w.1 i) p 0 = -9 then -9 else qVv w.1 i (qLp (qFr' w.1 i) p 0)
def qSopA (a : qAS) (p : Int) : Int := qSm a.2.2.2.length 0 (fun i => if qLp (qFr' a i) p 0 = -9 then 0 else qVv a i (qLp (qFr' a i) p 0))
def fPath (w : qWd) (p x : Int) : Int :=
  if ¬ (0 ≤ p ∧ p < w.1.1.length) then -1 else if x = 0 then qLe w.1.1 p else if x = 1 then qOu w.1.1 p else if x = 2 then qHol (qRs w.1) w.1.2.1 p else if x = 3 then qHol (qRs w.1) w.1.2.1 (100 + p) else if x = 4 then qSopA w.1 p else if x = 5 then qCst (qRs w.1) w.1.2.1 w.1.2.2.1 p else -1
def fShape (w : qWd) (s x : Int) : Int :=
  if ¬ (0 ≤ s ∧ s < w.1.2.1.length) then -1 else if x = 0 then qCt (qRs w.1) s else if x = 1 then (if w.1.2.2.1 ≤ qCt (qRs w.1) s then 1 else 0) else if x = 2 then qLv (qGf w.1.2.1 s) else if x = 3 then (qGf w.1.2.1 s).length - qLv (qGf w.1.2.1 s) else if x = 4 then (qText w.1.1 (fun _ => []) (qGf w.1.2.1 s)).length else -1
def fColumn (w : qWd) (s lf k : Int) : Int :=
  if ¬ (0 ≤ s ∧ s < w.1.2.1.length) ∨ lf < 0 ∨ k < 0 then -1 else if qCt (qRs w.1) s < w.1.2.2.1 then -2 else if qNt (qRs w.1) s k 0 = -9 ∨ qLv (qGf w.1.2.1 s) ≤ lf then -9 else qVv w.1 (qNt (qRs w.1) s k 0) lf
def fField (w : qWd) (s k : Int) : Int := if ¬ (0 ≤ s ∧ s < w.1.2.1.length) ∨ k < 0 then -1 else qAt (qGf w.1.2.1 s) k
def fSizeWith (w : qWd) (b : Int) : Int := if 1 ≤ b ∧ b ≤ 10 then qSz (qRs w.1) w.1.2.1 b else -1
def fBest (w : qWd) : Int := qBb (qSz (qRs w.1) w.1.2.1) 9 2 1
def fLike (w : qWd) (i : Int) : Int := qLike (qRs w.1) w.1.2.1 i
theorem cLR_count {w : qWd} {P : List (Int × Int)} {f : Nat → Nat} {vs : List Int} {hs : List qSC} {rd : qRd} {l3 g : List Int} (hC : qCl0 m r w P f vs hs rd l3 g) (hw : qWA w.1) {x : Int} : qP m_LR_count [qK 0, qI x] (qT0, m, r) (qI (fCount w x)) := by
  have hC0 := hC
  obtain ⟨h, hHr, hN, hpre, hRg, hrd, hTx, hL3, hG, hHc, hHl, hHs⟩ := hC
  have hn := hN.1
  have hS := hN.2.1
  have hV := qNw_V hN hw
  have e2 := hn.2.2.1
  have e3 := hn.2.2.2.1
  have e4 := hn.2.2.2.2.1
  have h30 := hn.2.2.2.2.2.1
  have h40 := hS.1
  have hrl := qRs_len w.1
  unfold fCount
  by_cases c0 : x = 0
  · subst c0
    rw [if_pos rfl]
    refine qr_il rfl rfl (w := ?_)
    refine qr_swin rfl (by decide) (t := 56) rfl (w := ?_)
    refine qr_al rfl rfl (w := ?_)
    refine qr_gr rfl kd_0 (hr := (rf_7_6 h)) (w := ?_)
    refine qr_callP rfl (sState_recordsLeft (kState h) hn) (qrcv1 kd_144) (w := ?_)
    refine qW_ireturn rfl ?_
    exact ⟨rfl, rfl⟩
  by_cases c1 : x = 1
  · subst c1
    rw [if_neg (by decide)]
    rw [if_pos rfl]
    refine qr_il rfl rfl (w := ?_)
    refine qr_swin rfl (by decide) (t := 64) rfl (w := ?_)
    refine qr_al rfl rfl (w := ?_)
    refine qr_gr rfl kd_0 (hr := (rf_7_6 h)) (w := ?_)
    refine qr_callP rfl (sState_recordsRead (kState h) hn) (qrcv1 kd_144) (w := ?_)
    refine qW_ireturn rfl ?_
    exact ⟨by rw [hrl], rfl⟩
  by_cases c2 : x = 2
  · subst c2
    rw [if_neg (by decide)]
    rw [if_neg (by decide)]
    rw [if_pos rfl]
    refine qr_il rfl rfl (w := ?_)
    refine qr_swin rfl (by decide) (t := 72) rfl (w := ?_)
    refine qr_al rfl rfl (w := ?_)
    refine qr_gr rfl kd_0 (hr := (rf_7_6 h)) (w := ?_)
    refine qr_gi rfl kd_144 (w := ?_)
    refine qW_ireturn rfl ?_
    exact ⟨by rw [e2], rfl⟩
  by_cases c3 : x = 3
  · subst c3
    rw [if_neg (by decide)]
    rw [if_neg (by decide)]
    rw [if_neg (by decide)]
    rw [if_pos rfl]
    refine qr_il rfl rfl (w := ?_)
    refine qr_swin rfl (by decide) (t := 80) rfl (w := ?_)
    refine qr_al rfl rfl (w := ?_)
    refine qr_gr rfl kd_0 (hr := (rf_7_6 h)) (w := ?_)
    refine qr_gi rfl kd_144 (w := ?_)
    refine qW_ireturn rfl ?_
    exact ⟨by rw [e3], rfl⟩
  by_cases c4 : x = 4
  · subst c4
    rw [if_neg (by decide)]
    rw [if_neg (by decide)]
    rw [if_neg (by decide)]
    rw [if_neg (by decide)]
    rw [if_pos rfl]
    refine qr_il rfl rfl (w := ?_)
    refine qr_swin rfl (by decide) (t := 88) rfl (w := ?_)
    refine qr_al rfl rfl (w := ?_)
    refine qr_callP rfl (sLR_commonShapes h hn hS) (qrcv1 kd_0) (w := ?_)
    refine qW_ireturn rfl ?_
    exact ⟨rfl, rfl⟩
  by_cases c5 : x = 5
  · subst c5
    rw [if_neg (by decide)]
    rw [if_neg (by decide)]
    rw [if_neg (by decide)]
    rw [if_neg (by decide)]
    rw [if_neg (by decide)]
    rw [if_pos rfl]
    refine qr_il rfl rfl (w := ?_)
    refine qr_swin rfl (by decide) (t := 93) rfl (w := ?_)
    refine qr_al rfl rfl (w := ?_)
    refine qr_callP rfl (sLR_rareRecords h hn hS) (qrcv1 kd_0) (w := ?_)
    refine qW_ireturn rfl ?_
    exact ⟨rfl, rfl⟩
  by_cases c6 : x = 6
  · subst c6
    rw [if_neg (by decide)]
    rw [if_neg (by decide)]
    rw [if_neg (by decide)]
    rw [if_neg (by decide)]
    rw [if_neg (by decide)]
    rw [if_neg (by decide)]
    rw [if_pos rfl]
    refine qr_il rfl rfl (w := ?_)
    refine qr_swin rfl (by decide) (t := 98) rfl (w := ?_)
    refine qr_al rfl rfl (w := ?_)
    refine qr_al rfl rfl (w := ?_)
    refine qr_gr rfl kd_0 (hr := (rf_7_6 h)) (w := ?_)
    refine qr_gi rfl kd_144 (w := ?_)
    refine qr_callP rfl (sLR_sizeFor h hn hS) (qrcv1 kd_0) (w := ?_)
    refine qW_ireturn rfl ?_
    exact ⟨by rw [e4], rfl⟩
  by_cases c7 : x = 7
  · subst c7
    rw [if_neg (by decide)]
    rw [if_neg (by decide)]
    rw [if_neg (by decide)]
    rw [if_neg (by decide)]
    rw [if_neg (by decide)]
    rw [if_neg (by decide)]
    rw [if_neg (by decide)]
    rw [if_pos rfl]
    refine qr_il rfl rfl (w := ?_)
    refine qr_swin rfl (by decide) (t := 110) rfl (w := ?_)
    refine qr_al rfl rfl (w := ?_)
    refine qr_gr rfl kd_0 (hr := (rf_7_6 h)) (w := ?_)
    refine qr_gi rfl kd_144 (w := ?_)
    refine qW_ireturn rfl ?_
    exact ⟨by rw [e4], rfl⟩
  by_cases c8 : x = 8
  · subst c8
    rw [if_neg (by decide)]
    rw [if_neg (by decide)]
    rw [if_neg (by decide)]
    rw [if_neg (by decide)]
    rw [if_neg (by decide)]
    rw [if_neg (by decide)]
    rw [if_neg (by decide)]
    rw [if_neg (by decide)]
    rw [if_pos rfl]
    refine qr_il rfl rfl (w := ?_)
    refine qr_swin rfl (by decide) (t := 118) rfl (w := ?_)
    refine qr_al rfl rfl (w := ?_)
    refine qr_gr rfl kd_0 (hr := (rf_7_7 h)) (w := ?_)
    refine qr_callP rfl (sHist_size hHc) (qrcv1 kd_149) (w := ?_)
    refine qW_ireturn rfl ?_
    exact ⟨by rw [hHl], rfl⟩
  by_cases c9 : x = 9
  · subst c9
    rw [if_neg (by decide)]
    rw [if_neg (by decide)]
    rw [if_neg (by decide)]
    rw [if_neg (by decide)]
    rw [if_neg (by decide)]
    rw [if_neg (by decide)]
    rw [if_neg (by decide)]
    rw [if_neg (by decide)]
    rw [if_neg (by decide)]
    rw [if_pos rfl]
    refine qr_il rfl rfl (w := ?_)
    refine qr_swin rfl (by decide) (t := 126) rfl (w := ?_)
    refine qr_al rfl rfl (w := ?_)
    refine qr_gr rfl kd_0 (hr := (rf_7_0 h)) (w := ?_)
    refine qr_callP rfl (sRow_len (kText h) hTx) (qrcv1 (kText h).1) (w := ?_)
    refine qW_ireturn rfl ?_
    exact ⟨rfl, rfl⟩
  rw [if_neg c0]
  rw [if_neg c1]
  rw [if_neg c2]
  rw [if_neg c3]
  rw [if_neg c4]
  rw [if_neg c5]
  rw [if_neg c6]
  rw [if_neg c7]
  rw [if_neg c8]
  rw [if_neg c9]
  refine qr_il rfl rfl (w := ?_)
  refine qr_swout rfl (by simp only [List.length_cons, List.length_nil]; omega) (w := ?_)
  refine qr_const rfl (w := ?_)
  refine qW_ireturn rfl ?_
  exact ⟨rfl, rfl⟩
theorem qLp_val {w : qWd} (hw : qWA w.1) {i p : Int} (h9 : qAt (qRs w.1) i ≠ -9) (hp : p < 100) (hl : qLp (qFr' w.1 i) p 0 ≠ -9) : ∃ (i' j : Nat) (h : i' < w.1.2.2.2.length), i = i' ∧ qLp (qFr' w.1 i) p 0 = j ∧ j < w.1.2.2.2[i'].2.length ∧ j < 10 := by
  obtain ⟨g1, g2⟩ := qHas_lt h9
  have e : i = (i.toNat : Nat) := by omega
  have h1 := qLp_lt (qFr' w.1 i) hp 0
  rw [e] at h9 hl h1 ⊢
  obtain ⟨g3, g4⟩ := qWA_val hw (i := i.toNat) (by omega) h9
  have g5 := (hw.2.2.2.2.2 w.1.2.2.2[i.toNat] (List.getElem_mem _)).1
  have g6 : 0 ≤ qLp (qFr' w.1 (i.toNat : Nat)) p 0 ∧ qLp (qFr' w.1 (i.toNat : Nat)) p 0 < qLv (qFr' w.1 (i.toNat : Nat)) := by omega
  exact ⟨i.toNat, (qLp (qFr' w.1 (i.toNat : Nat)) p 0).toNat, by omega, rfl, by omega, by omega, by omega⟩
theorem cLR_value {w : qWd} {P : List (Int × Int)} {f : Nat → Nat} {vs : List Int} {hs : List qSC} {rd : qRd} {l3 g : List Int} (hC : qCl0 m r w P f vs hs rd l3 g) (hw : qWA w.1) {i p : Int} : qP m_LR_value [qK 0, qI i, qI p, none] (qT0, m, r) (qI (fValue w i p)) := by
  have hC0 := hC
  obtain ⟨h, hHr, hN, hpre, hRg, hrd, hTx, hL3, hG, hHc, hHl, hHs⟩ := hC
  have hn := hN.1
  have hS := hN.2.1
  have hV := qNw_V hN hw
  have e2 := hn.2.2.1
  have e3 := hn.2.2.2.1
  have e4 := hn.2.2.2.2.1
  have h30 := hn.2.2.2.2.2.1
  have h40 := hS.1
  have hrl := qRs_len w.1
  unfold fValue
  refine qr_al rfl rfl (w := ?_)
  refine qr_gr rfl kd_0 (hr := (rf_7_6 h)) (w := ?_)
  refine qr_il rfl rfl (w := ?_)
  refine qr_callP rfl (sState_has (kState h) hn) (qrcv1 kd_144) (w := ?_)
  refine qr_ifeqB rfl (fun hc => ?_) (fun hc => ?_)
  · refine qr_const rfl (w := ?_)
    refine qW_ireturn rfl ?_
    refine ⟨congrArg qI ?_, rfl⟩
    rw [if_pos]
    simp only [decide_eq_true_eq, decide_eq_false_iff_not, ne_eq, Decidable.not_not] at *
    omega
  · refine qr_al rfl rfl (w := ?_)
    refine qr_il rfl rfl (w := ?_)
    refine qr_callP rfl (sLR_isPath h hn hS) (qrcv1 kd_0) (w := ?_)
    refine qr_ifneB rfl (fun hcf => ?_) (fun hcf => ?_)
    · refine qr_al rfl rfl (w := ?_)
      refine qr_il rfl rfl (w := ?_)
      refine qr_callP rfl (sLR_formOf h hn hS) (qrcv1 kd_0) (w := ?_)
      have h9 := of_decide_eq_true hc
      have hp := of_decide_eq_true hcf
      rw [if_neg (by omega)]
      refine qr_il rfl rfl (w := ?_)
      refine qr_callP rfl (sForm_leafPlace (qFa_k h (qAt (qRs w.1) i)) (qFa_c (s := qAt (qRs w.1) i) hS (by rcases qWA_rs hw i with h9 | h9 <;> omega))) (qrcv1 (qFa_k h _).1) (w := ?_)
      refine qr_is3 rfl (w := ?_)
      refine qr_il rfl rfl (w := ?_)
      refine qr_const rfl (w := ?_)
      refine qr_icne rfl (fun hc2 => ?_) (fun hc2 => ?_)
      · refine qr_al rfl rfl (w := ?_)
        refine qr_gr rfl kd_0 (hr := (rf_7_6 h)) (w := ?_)
        refine qr_il rfl rfl (w := ?_)
        refine qr_il rfl rfl (w := ?_)
        obtain ⟨i', j, hi', rfl, hj, hj2, hj3⟩ := qLp_val hw h9 (by have := hw.1.1; omega) hc2
        have hle : qLp (qGf w.1.2.1 (qAt (qRs w.1) (i' : Int))) p 0 = j := hj
        rw [hle]
        refine qr_callP rfl (sState_valueAt (i := i') (j := j) (kState h) hn (by omega) (by omega)) (qrcv1 kd_144) (w := ?_)
        refine qW_ireturn rfl ?_
        refine ⟨congrArg qI ?_, rfl⟩
        rw [if_neg (show ¬ qLp (qFr' w.1 (i' : Int)) p 0 = -9 from hc2), qNw_val hN hi' hj2, hj]
      · refine qr_const rfl (w := ?_)
        refine qr_goto rfl (w := ?_)
        refine qW_ireturn rfl ⟨congrArg qI ?_, rfl⟩
        rw [if_pos]
        exact hc2
    · refine qr_const rfl (w := ?_)
      refine qW_ireturn rfl ?_
      refine ⟨congrArg qI ?_, rfl⟩
      rw [if_pos]
      simp only [decide_eq_true_eq, decide_eq_false_iff_not, ne_eq, Decidable.not_not] at *
      omega
theorem cLR_sizeWith {w : qWd} {P : List (Int × Int)} {f : Nat → Nat} {vs : List Int} {hs : List qSC} {rd : qRd} {l3 g : List Int} (hC : qCl0 m r w P f vs hs rd l3 g) (hw : qWA w.1) {b : Int} : qP m_LR_sizeWith [qK 0, qI b] (qT0, m, r) (qI (fSizeWith w b)) := by
  have hC0 := hC
  obtain ⟨h, hHr, hN, hpre, hRg, hrd, hTx, hL3, hG, hHc, hHl, hHs⟩ := hC
  have hn := hN.1
  have hS := hN.2.1
  have hV := qNw_V hN hw
  have e2 := hn.2.2.1
  have e3 := hn.2.2.2.1
  have e4 := hn.2.2.2.2.1
  have h30 := hn.2.2.2.2.2.1
  have h40 := hS.1
  have hrl := qRs_len w.1
  unfold fSizeWith
  refine qr_al rfl rfl (w := ?_)
  refine qr_il rfl rfl (w := ?_)
  refine qr_callP rfl sLR_isBound (qrcv1 kd_0) (w := ?_)
  refine qr_ifeqB rfl (fun hc => ?_) (fun hc => ?_)
  · refine qr_const rfl (w := ?_)
    refine qW_ireturn rfl ?_
    first | exact ⟨by rw [if_pos (of_decide_eq_true hc)], rfl⟩ | exact ⟨by rw [if_neg (of_decide_eq_false hc)], rfl⟩
  · refine qr_al rfl rfl (w := ?_)
    refine qr_il rfl rfl (w := ?_)
    refine qr_callP rfl (sLR_sizeFor h hn hS) (qrcv1 kd_0) (w := ?_)
    refine qr_goto rfl (w := ?_)
    refine qW_ireturn rfl ?_
    first | exact ⟨by rw [if_pos (of_decide_eq_true hc)], rfl⟩ | exact ⟨by rw [if_neg (of_decide_eq_false hc)], rfl⟩
theorem cLR_bestBound {w : qWd} {P : List (Int × Int)} {f : Nat → Nat} {vs : List Int} {hs : List qSC} {rd : qRd} {l3 g : List Int} (hC : qCl0 m r w P f vs hs rd l3 g) (hw : qWA w.1) : qP m_LR_bestBound [qK 0, none, none, none, none] (qT0, m, r) (qI (fBest w)) := by
  have hC0 := hC
  obtain ⟨h, hHr, hN, hpre, hRg, hrd, hTx, hL3, hG, hHc, hHl, hHs⟩ := hC
  have hn := hN.1
  have hS := hN.2.1
  have hV := qNw_V hN hw
  have e2 := hn.2.2.1
  have e3 := hn.2.2.2.1
  have e4 := hn.2.2.2.2.1
  have h30 := hn.2.2.2.2.2.1
  have h40 := hS.1
  have hrl := qRs_len w.1
  exact sLR_bestBound h hn hS
theorem cLR_like {w : qWd} {P : List (Int × Int)} {f : Nat → Nat} {vs : List Int} {hs : List qSC} {rd : qRd} {l3 g : List Int} (hC : qCl0 m r w P f vs hs rd l3 g) (hw : qWA w.1) {i : Int} : qP m_LR_like [qK 0, qI i, none, none, none, none, none] (qT0, m, r) (qI (fLike w i)) := by
  have hC0 := hC
  obtain ⟨h, hHr, hN, hpre, hRg, hrd, hTx, hL3, hG, hHc, hHl, hHs⟩ := hC
  have hn := hN.1
  have hS := hN.2.1
  have hV := qNw_V hN hw
  have e2 := hn.2.2.1
  have e3 := hn.2.2.2.1
  have e4 := hn.2.2.2.2.1
  have h30 := hn.2.2.2.2.2.1
  have h40 := hS.1
  have hrl := qRs_len w.1
  exact sLR_like h hn hS (fun i => by rcases qWA_rs hw i with h9 | h9 <;> omega)
theorem cLR_field {w : qWd} {P : List (Int × Int)} {f : Nat → Nat} {vs : List Int} {hs : List qSC} {rd : qRd} {l3 g : List Int} (hC : qCl0 m r w P f vs hs rd l3 g) (hw : qWA w.1) {s k : Int} : qP m_LR_field [qK 0, qI s, qI k, none] (qT0, m, r) (qI (fField w s k)) := by
  have hC0 := hC
  obtain ⟨h, hHr, hN, hpre, hRg, hrd, hTx, hL3, hG, hHc, hHl, hHs⟩ := hC
  have hn := hN.1
  have hS := hN.2.1
  have hV := qNw_V hN hw
  have e2 := hn.2.2.1
  have e3 := hn.2.2.2.1
  have e4 := hn.2.2.2.2.1
  have h30 := hn.2.2.2.2.2.1
  have h40 := hS.1
  have hrl := qRs_len w.1
  unfold fField
  refine qr_al rfl rfl (w := ?_)
  refine qr_il rfl rfl (w := ?_)
  refine qr_callP rfl (sLR_isShape h hn hS) (qrcv1 kd_0) (w := ?_)
  refine qr_ifeqB rfl (fun hc => ?_) (fun hc => ?_)
  · refine qr_const rfl (w := ?_)
    refine qW_ireturn rfl ⟨congrArg qI ?_, rfl⟩
    rw [if_pos]
    simp only [decide_eq_true_eq, decide_eq_false_iff_not] at *
    omega
  · refine qr_il rfl rfl (w := ?_)
    refine qr_ifge rfl (fun hcf => ?_) (fun hcf => ?_)
    · refine qr_al rfl rfl (w := ?_)
      refine qr_gr rfl kd_0 (hr := (rf_7_4 h)) (w := ?_)
      refine qr_il rfl rfl (w := ?_)
      refine qr_callP rfl (sShapes_formAt h _) (qrcv1 kd_16) (w := ?_)
      refine qr_as3 rfl (w := ?_)
      refine qr_il rfl rfl (w := ?_)
      refine qr_al rfl rfl (w := ?_)
      have hsr := of_decide_eq_true hc
      refine qr_callP rfl (sForm_size (qFa_k h s) (qFa_c (s := s) hS (by omega))) (qrcv1 (qFa_k h s).1) (w := ?_)
      refine qr_icge rfl (fun hcft => ?_) (fun hcft => ?_)
      · refine qr_const rfl (w := ?_)
        refine qW_ireturn rfl ?_
        refine ⟨congrArg qI ?_, rfl⟩
        rw [if_neg (by omega)]
        all_goals (unfold qAt; rw [if_neg (by omega)])
      · refine qr_al rfl rfl (w := ?_)
        refine qr_il rfl rfl (w := ?_)
        refine qr_callP rfl (sForm_at (qFa_k h s) (qFa_c (s := s) hS (by omega))) (qrcv1 (qFa_k h s).1) (w := ?_)
        refine qr_goto rfl (w := ?_)
        refine qW_ireturn rfl ?_
        refine ⟨congrArg qI ?_, rfl⟩
        rw [if_neg (by omega)]
        all_goals (unfold qAt; rw [if_neg (by omega)])
    · refine qr_const rfl (w := ?_)
      refine qW_ireturn rfl ⟨congrArg qI ?_, rfl⟩
      rw [if_pos]
      simp only [decide_eq_true_eq, decide_eq_false_iff_not] at *
      omega
theorem qNt_rng (l : List Int) (x : Int) : ∀ (n a : Int), 0 ≤ a → qNt l x n a = -9 ∨ (a ≤ qNt l x n a ∧ qNt l x n a < a + l.length ∧ qAt l (qNt l x n a - a) = x) := by
  induction l with
  | nil => intro n a _; exact Or.inl rfl
  | cons f t ih =>
    intro n a ha
    have hsh : ∀ y : Int, 0 ≤ y → qAt (f :: t) (y + 1) = qAt t y := fun y hy => by
      unfold qAt
      rw [List.length_cons]
      by_cases h : y < t.length
      · rw [if_pos ⟨by omega, by omega⟩, if_pos ⟨hy, h⟩, show (y + 1).toNat = y.toNat + 1 by omega]
        simp [List.getD_eq_getElem?_getD]
      · rw [if_neg (by omega), if_neg (by omega)]
    have step : ∀ n', qNt t x n' (a + 1) = -9 ∨ (a ≤ qNt t x n' (a + 1) ∧ qNt t x n' (a + 1) < a + (f :: t).length ∧ qAt (f :: t) (qNt t x n' (a + 1) - a) = x) := fun n' => by
      rcases ih n' (a + 1) (by omega) with h | ⟨h1, h2, h3⟩
      · exact Or.inl h
      · refine Or.inr ⟨by omega, by rw [List.length_cons]; omega, ?_⟩
        have h4 := hsh (qNt t x n' (a + 1) - (a + 1)) (by omega)
        rw [show qNt t x n' (a + 1) - (a + 1) + 1 = qNt t x n' (a + 1) - a by omega] at h4
        rw [h4]
        exact h3
    simp only [qNt]
    split
    · rename_i hf
      split
      · refine Or.inr ⟨Int.le_refl _, by rw [List.length_cons]; omega, ?_⟩
        rw [Int.sub_self]
        subst hf
        have h0 := qAt_lt (l := f :: t) (i := 0) (by simp)
        exact h0
      · exact step _
    · exact step _
theorem cLR_column {w : qWd} {P : List (Int × Int)} {f : Nat → Nat} {vs : List Int} {hs : List qSC} {rd : qRd} {l3 g : List Int} (hC : qCl0 m r w P f vs hs rd l3 g) (hw : qWA w.1) {s lf k : Int} : qP m_LR_column [qK 0, qI s, qI lf, qI k, none] (qT0, m, r) (qI (fColumn w s lf k)) := by
  have hC0 := hC
  obtain ⟨h, hHr, hN, hpre, hRg, hrd, hTx, hL3, hG, hHc, hHl, hHs⟩ := hC
  have hn := hN.1
  have hS := hN.2.1
  have hV := qNw_V hN hw
  have e2 := hn.2.2.1
  have e3 := hn.2.2.2.1
  have e4 := hn.2.2.2.2.1
  have h30 := hn.2.2.2.2.2.1
  have h40 := hS.1
  have hrl := qRs_len w.1
  unfold fColumn
  refine qr_al rfl rfl (w := ?_)
  refine qr_il rfl rfl (w := ?_)
  refine qr_callP rfl (sLR_isShape h hn hS) (qrcv1 kd_0) (w := ?_)
  refine qr_ifeqB rfl (fun hc => ?_) (fun hc => ?_)
  · refine qr_const rfl (w := ?_)
    refine qW_ireturn rfl ⟨congrArg qI ?_, rfl⟩
    rw [if_pos]
    simp only [decide_eq_true_eq, decide_eq_false_iff_not] at *
    omega
  · refine qr_il rfl rfl (w := ?_)
    refine qr_iflt rfl (fun hcf => ?_) (fun hcf => ?_)
    · refine qr_const rfl (w := ?_)
      refine qW_ireturn rfl ⟨congrArg qI ?_, rfl⟩
      rw [if_pos]
      simp only [decide_eq_true_eq, decide_eq_false_iff_not] at *
      omega
    · refine qr_il rfl rfl (w := ?_)
      refine qr_ifge rfl (fun hcff => ?_) (fun hcff => ?_)
      · refine qr_al rfl rfl (w := ?_)
        refine qr_il rfl rfl (w := ?_)
        refine qr_callP rfl (sLR_isCommon h hn hS) (qrcv1 kd_0) (w := ?_)
        refine qr_ifneB rfl (fun hcfft => ?_) (fun hcfft => ?_)
        · have hsr := of_decide_eq_true hc
          have hcm := of_decide_eq_true hcfft
          rw [if_neg (by omega), if_neg (by omega)]
          refine qr_al rfl rfl (w := ?_)
          refine qr_gr rfl kd_0 (hr := (rf_7_6 h)) (w := ?_)
          refine qr_il rfl rfl (w := ?_)
          refine qr_il rfl rfl (w := ?_)
          refine qr_callP rfl (sState_recordWith (kState h) hn) (qrcv1 kd_144) (w := ?_)
          refine qr_is4 rfl (w := ?_)
          refine qr_il rfl rfl (w := ?_)
          refine qr_const rfl (w := ?_)
          refine qr_iceq rfl (fun hd => ?_) (fun hd => ?_)
          · refine qr_const rfl (w := ?_)
            refine qW_ireturn rfl ⟨congrArg qI ?_, rfl⟩
            rw [if_pos (by omega)]
          · refine qr_il rfl rfl (w := ?_)
            refine qr_al rfl rfl (w := ?_)
            refine qr_gr rfl kd_0 (hr := (rf_7_4 h)) (w := ?_)
            refine qr_il rfl rfl (w := ?_)
            refine qr_callP rfl (sShapes_formAt h _) (qrcv1 kd_16) (w := ?_)
            refine qr_callP rfl (sForm_leaves (qFa_k h s) (qFa_c (s := s) hS (by omega))) (qrcv1 (qFa_k h s).1) (w := ?_)
            refine qr_iclt rfl (fun hdf => ?_) (fun hdf => ?_)
            · refine qr_al rfl rfl (w := ?_)
              refine qr_gr rfl kd_0 (hr := (rf_7_6 h)) (w := ?_)
              refine qr_il rfl rfl (w := ?_)
              refine qr_il rfl rfl (w := ?_)
              have hrg := qNt_rng (qRs w.1) s k 0 (by omega)
              rcases hrg with hrg | ⟨q1, q2, q3⟩
              · exact absurd hrg hd
              obtain ⟨i', hi', hie⟩ : ∃ i' : Nat, i' < w.1.2.2.2.length ∧ qNt (qRs w.1) s k 0 = i' := ⟨(qNt (qRs w.1) s k 0).toNat, by omega, by omega⟩
              rw [hie, Int.sub_zero] at q3
              obtain ⟨q4, q5⟩ := qWA_val hw hi' (by rw [q3]; omega)
              have q6 := (hw.2.2.2.2.2 w.1.2.2.2[i'] (List.getElem_mem _)).1
              unfold qFr' at q4
              rw [q3] at q4
              obtain ⟨lf', rfl⟩ : ∃ y : Nat, lf = y := ⟨lf.toNat, by omega⟩
              rw [hie]
              refine qr_callP rfl (sState_valueAt (i := i') (j := lf') (kState h) hn (by omega) (by omega)) (qrcv1 kd_144) (w := ?_)
              refine qW_ireturn rfl ?_
              refine ⟨congrArg qI ?_, rfl⟩
              rw [if_neg (by omega)]
              exact qNw_val hN hi' (by omega)
            · refine qr_const rfl (w := ?_)
              refine qW_ireturn rfl ⟨congrArg qI ?_, rfl⟩
              rw [if_pos (by omega)]
        · have hsr := of_decide_eq_true hc
          have hcm := of_decide_eq_false hcfft
          refine qr_const rfl (w := ?_)
          refine qW_ireturn rfl ⟨congrArg qI ?_, rfl⟩
          rw [if_neg (by omega), if_pos (by omega)]
      · refine qr_const rfl (w := ?_)
        refine qW_ireturn rfl ⟨congrArg qI ?_, rfl⟩
        rw [if_pos]
        simp only [decide_eq_true_eq, decide_eq_false_iff_not] at *
        omega
theorem qSop_eq {w : qWd} {vs : List Int} (hN : qNw m w.1 vs) (hw : qWA w.1) {p : Int} (hp : p < 100) : qSop (qRs w.1) vs w.1.2.1 p = qSopA w.1 p := by
  unfold qSop qSopA
  rw [qRs_len]
  refine qSm_congr _ _ (fun i _ hi => ?_)
  have hi : i < w.1.2.2.2.length := by omega
  show (if qLp (qFr' w.1 i) p 0 = -9 then 0 else qAt vs (i * 10 + qLp (qFr' w.1 i) p 0)) = _
  by_cases h : qLp (qFr' w.1 i) p 0 = -9
  · rw [if_pos h, if_pos h]
  · rw [if_neg h, if_neg h]
    have h9 : qAt (qRs w.1) i ≠ -9 := fun e => h (by
      unfold qFr'
      rw [e, qGf_out (by omega)]
      rfl)
    obtain ⟨i', j, hi', e, hj, hj2, hj3⟩ := qLp_val hw h9 hp h
    have e' : i = i' := by omega
    subst e'
    rw [hj]
    exact qNw_val hN hi' hj2
theorem cLR_path {w : qWd} {P : List (Int × Int)} {f : Nat → Nat} {vs : List Int} {hs : List qSC} {rd : qRd} {l3 g : List Int} (hC : qCl0 m r w P f vs hs rd l3 g) (hw : qWA w.1) {p x : Int} : qP m_LR_path [qK 0, qI p, qI x] (qT0, m, r) (qI (fPath w p x)) := by
  have hC0 := hC
  obtain ⟨h, hHr, hN, hpre, hRg, hrd, hTx, hL3, hG, hHc, hHl, hHs⟩ := hC
  have hn := hN.1
  have hS := hN.2.1
  have hV := qNw_V hN hw
  have e2 := hn.2.2.1
  have e3 := hn.2.2.2.1
  have e4 := hn.2.2.2.2.1
  have h30 := hn.2.2.2.2.2.1
  have h40 := hS.1
  have hrl := qRs_len w.1
  have hwp := hw.1
  have hPh : qPh m 6 P := by have h9 := hRg.1; rw [hrd] at h9; exact h9
  unfold fPath
  by_cases hp : 0 ≤ p ∧ p < w.1.1.length
  · have h60 := hwp.1
    rw [if_neg (by omega)]
    by_cases c0 : x = 0
    · subst c0
      rw [if_pos rfl]
      refine qr_al rfl rfl (w := ?_)
      refine qr_il rfl rfl (w := ?_)
      refine qr_callP rfl (sLR_isPath h hn hS) (qrcv1 kd_0) (w := ?_)
      refine qr_ifneB rfl (fun hc => ?_) (fun hc => absurd hp (of_decide_eq_false hc))
      refine qr_il rfl rfl (w := ?_)
      refine qr_swin rfl (by decide) (t := 48) rfl (w := ?_)
      refine qr_al rfl rfl (w := ?_)
      refine qr_gr rfl kd_0 (hr := (rf_7_3 h)) (w := ?_)
      refine qr_il rfl rfl (w := ?_)
      refine qr_callP rfl (sPaths_letterOf (kPaths h) hPh) (qrcv1 kd_6) (w := ?_)
      refine qW_ireturn rfl ?_
      exact ⟨by rw [qLe_pre hpre hp.2], rfl⟩
    by_cases c1 : x = 1
    · subst c1
      rw [if_neg (by decide)]
      rw [if_pos rfl]
      refine qr_al rfl rfl (w := ?_)
      refine qr_il rfl rfl (w := ?_)
      refine qr_callP rfl (sLR_isPath h hn hS) (qrcv1 kd_0) (w := ?_)
      refine qr_ifneB rfl (fun hc => ?_) (fun hc => absurd hp (of_decide_eq_false hc))
      refine qr_il rfl rfl (w := ?_)
      refine qr_swin rfl (by decide) (t := 57) rfl (w := ?_)
      refine qr_al rfl rfl (w := ?_)
      refine qr_gr rfl kd_0 (hr := (rf_7_3 h)) (w := ?_)
      refine qr_il rfl rfl (w := ?_)
      refine qr_callP rfl (sPaths_outerOf (kPaths h) hPh) (qrcv1 kd_6) (w := ?_)
      refine qW_ireturn rfl ?_
      exact ⟨by rw [qOu_pre hpre hp.2], rfl⟩
    by_cases c2 : x = 2
    · subst c2
      rw [if_neg (by decide)]
      rw [if_neg (by decide)]
      rw [if_pos rfl]
      refine qr_al rfl rfl (w := ?_)
      refine qr_il rfl rfl (w := ?_)
      refine qr_callP rfl (sLR_isPath h hn hS) (qrcv1 kd_0) (w := ?_)
      refine qr_ifneB rfl (fun hc => ?_) (fun hc => absurd hp (of_decide_eq_false hc))
      refine qr_il rfl rfl (w := ?_)
      refine qr_swin rfl (by decide) (t := 66) rfl (w := ?_)
      refine qr_al rfl rfl (w := ?_)
      refine qr_il rfl rfl (w := ?_)
      refine qr_callP rfl (sLR_recordsHolding h hn hS) (qrcv1 kd_0) (w := ?_)
      refine qW_ireturn rfl ?_
      exact ⟨rfl, rfl⟩
    by_cases c3 : x = 3
    · subst c3
      rw [if_neg (by decide)]
      rw [if_neg (by decide)]
      rw [if_neg (by decide)]
      rw [if_pos rfl]
      refine qr_al rfl rfl (w := ?_)
      refine qr_il rfl rfl (w := ?_)
      refine qr_callP rfl (sLR_isPath h hn hS) (qrcv1 kd_0) (w := ?_)
      refine qr_ifneB rfl (fun hc => ?_) (fun hc => absurd hp (of_decide_eq_false hc))
      refine qr_il rfl rfl (w := ?_)
      refine qr_swin rfl (by decide) (t := 72) rfl (w := ?_)
      refine qr_al rfl rfl (w := ?_)
      refine qr_const rfl (w := ?_)
      refine qr_il rfl rfl (w := ?_)
      refine qr_add rfl (by omega) (w := ?_)
      refine qr_callP rfl (sLR_recordsHolding h hn hS) (qrcv1 kd_0) (w := ?_)
      refine qW_ireturn rfl ?_
      exact ⟨rfl, rfl⟩
    by_cases c4 : x = 4
    · subst c4
      rw [if_neg (by decide)]
      rw [if_neg (by decide)]
      rw [if_neg (by decide)]
      rw [if_neg (by decide)]
      rw [if_pos rfl]
      refine qr_al rfl rfl (w := ?_)
      refine qr_il rfl rfl (w := ?_)
      refine qr_callP rfl (sLR_isPath h hn hS) (qrcv1 kd_0) (w := ?_)
      refine qr_ifneB rfl (fun hc => ?_) (fun hc => absurd hp (of_decide_eq_false hc))
      refine qr_il rfl rfl (w := ?_)
      refine qr_swin rfl (by decide) (t := 81) rfl (w := ?_)
      refine qr_al rfl rfl (w := ?_)
      refine qr_il rfl rfl (w := ?_)
      refine qr_callP rfl (sLR_sumOfPath h hn hS hV ⟨hp.1, by omega⟩) (qrcv1 kd_0) (w := ?_)
      refine qW_ireturn rfl ?_
      exact ⟨by rw [qSop_eq hN hw (by omega)], rfl⟩
    by_cases c5 : x = 5
    · subst c5
      rw [if_neg (by decide)]
      rw [if_neg (by decide)]
      rw [if_neg (by decide)]
      rw [if_neg (by decide)]
      rw [if_neg (by decide)]
      rw [if_pos rfl]
      refine qr_al rfl rfl (w := ?_)
      refine qr_il rfl rfl (w := ?_)
      refine qr_callP rfl (sLR_isPath h hn hS) (qrcv1 kd_0) (w := ?_)
      refine qr_ifneB rfl (fun hc => ?_) (fun hc => absurd hp (of_decide_eq_false hc))
      refine qr_il rfl rfl (w := ?_)
      refine qr_swin rfl (by decide) (t := 87) rfl (w := ?_)
      refine qr_al rfl rfl (w := ?_)
      refine qr_il rfl rfl (w := ?_)
      refine qr_callP rfl (sLR_costOf h hn hS) (qrcv1 kd_0) (w := ?_)
      refine qW_ireturn rfl ?_
      exact ⟨rfl, rfl⟩
    rw [if_neg c0]
    rw [if_neg c1]
    rw [if_neg c2]
    rw [if_neg c3]
    rw [if_neg c4]
    rw [if_neg c5]
    refine qr_al rfl rfl (w := ?_)
    refine qr_il rfl rfl (w := ?_)
    refine qr_callP rfl (sLR_isPath h hn hS) (qrcv1 kd_0) (w := ?_)
    refine qr_ifneB rfl (fun hc => ?_) (fun hc => absurd hp (of_decide_eq_false hc))
    refine qr_il rfl rfl (w := ?_)
    refine qr_swout rfl (by simp only [List.length_cons, List.length_nil]; omega) (w := ?_)
    refine qr_const rfl (w := ?_)
    refine qW_ireturn rfl ?_
    exact ⟨rfl, rfl⟩
  · rw [if_pos hp]
    refine qr_al rfl rfl (w := ?_)
    refine qr_il rfl rfl (w := ?_)
    refine qr_callP rfl (sLR_isPath h hn hS) (qrcv1 kd_0) (w := ?_)
    refine qr_ifneB rfl (fun hc => absurd (of_decide_eq_true hc) hp) (fun hc => ?_)
    refine qr_const rfl (w := ?_)
    refine qW_ireturn rfl ?_
    exact ⟨rfl, rfl⟩
/-- what the text of a record needs -/
theorem qTextFit {w : qWd} (hw : qWA w.1) {i : Nat} (hi : i < w.1.2.2.2.length) (h9 : qAt (qRs w.1) i ≠ -9) : (qText w.1.1 (qNvA w.1 i) (qFr' w.1 i)).length ≤ 100 := by
  obtain ⟨g3, g4⟩ := qWA_val hw hi h9
  refine qText_fit hw.1 (qWs_gf hw _) (fun j h1 h2 => ?_)
  have h3 := g4 j.toNat (by unfold qFr'; omega)
  rw [Int.toNat_of_nonneg h1] at h3
  exact ⟨qNum_ne h3, qNum_len _⟩
theorem qTextEq {w : qWd} {P : List (Int × Int)} {vs : List Int} (hpre : w.1.1 <+: P) (hN : qNw m w.1 vs) (hw : qWA w.1) {i : Nat} (hi : i < w.1.2.2.2.length) (h9 : qAt (qRs w.1) i ≠ -9) : qText P (qNv vs i) (qFr' w.1 i) = qText w.1.1 (qNvA w.1 i) (qFr' w.1 i) := by
  have hws : qWs w.1.1 (qFr' w.1 i) := qWs_gf hw _
  unfold qText
  rw [qTxt_pre hpre hw.1 _ _ _ _ _ (fun f hf => (hws.2.2.1 f hf).2.2) (by omega)]
  refine qTxt_nv _ _ _ _ (fun j h1 h2 => ?_)
  obtain ⟨g3, g4⟩ := qWA_val hw hi h9
  unfold qNv qNvA
  rw [if_neg (by omega)]
  obtain ⟨j, rfl⟩ : ∃ y : Nat, j = y := ⟨j.toNat, by omega⟩
  rw [qNw_val hN hi (by omega)]
theorem qTextEq0 {w : qWd} {P : List (Int × Int)} {vs : List Int} (hpre : w.1.1 <+: P) (hw : qWA w.1) (s : Int) : qText P (qNv vs (-9)) (qGf w.1.2.1 s) = qText w.1.1 (fun _ => []) (qGf w.1.2.1 s) := by
  have hws := qWs_gf hw s
  unfold qText
  rw [qTxt_pre hpre hw.1 _ _ _ _ _ (fun f hf => (hws.2.2.1 f hf).2.2) (by omega)]
  refine qTxt_nv _ _ _ _ (fun j h1 h2 => ?_)
  unfold qNv
  rw [if_pos rfl]
theorem qFa_rng (s : Int) : 5 ≤ qFa s ∧ qFa s + 3 ≤ 141 := by
  unfold qFa
  split
  · show 5 ≤ 18 + 3 * s.toNat ∧ 18 + 3 * s.toNat + 3 ≤ 141
    omega
  · omega
theorem qWs_f {a : qAS} (hw : qWA a) (s : Int) : ∀ f ∈ qGf a.2.1 s, 0 ≤ f ∧ f < 1000 := by
  intro f hf
  have h1 := (qWs_gf hw s).2.2.1 f hf
  have h2 := hw.1.1
  unfold qPa at h1
  split at h1 <;> omega
theorem cLR_text {w : qWd} {P : List (Int × Int)} {f : Nat → Nat} {vs : List Int} {hs : List qSC} {rd : qRd} {l3 g : List Int} (hC : qCl0 m r w P f vs hs rd l3 g) (hw : qWA w.1) {i : Nat} (hi : i < w.1.2.2.2.length) (h9 : qAt (qRs w.1) i ≠ -9) : qW m_LR_writeText 0 [qK 0, qK (qFa (qAt (qRs w.1) i)), qI i, none, none, none, none] [] (qT0, m, r) (fun y σ => ∃ m', σ = (qT0, m', r) ∧ y = qI (qText w.1.1 (qNvA w.1 i) (qFr' w.1 i)).length ∧ qRw m' 3 (qText w.1.1 (qNvA w.1 i) (qFr' w.1 i)) ∧ qFr (qPz 3) m m') := by
  have hC0 := hC
  obtain ⟨h, hHr, hN, hpre, hRg, hrd, hTx, hL3, hG, hHc, hHl, hHs⟩ := hC
  have hn := hN.1
  have hS := hN.2.1
  have hV := qNw_V hN hw
  have e2 := hn.2.2.1
  have e3 := hn.2.2.2.1
  have e4 := hn.2.2.2.2.1
  have h30 := hn.2.2.2.2.2.1
  have h40 := hS.1
  have hrl := qRs_len w.1
  have hPh : qPh m 6 P := by have h9 := hRg.1; rw [hrd] at h9; exact h9
  have hrg := qFa_rng (qAt (qRs w.1) i)
  have hE := qTextEq hpre hN hw hi h9
  have hF := qTextFit hw hi h9
  have h1 := sLR_writeText (x := (i : Int)) h (qFa_k h (qAt (qRs w.1) i)) hrg.1 (by omega) (qWs_f hw _) (Or.inr ⟨by omega, by omega⟩) (fun _ j g1 g2 => by
    obtain ⟨g3, g4⟩ := qWA_val hw hi h9
    obtain ⟨j, rfl⟩ : ∃ y : Nat, j = y := ⟨j.toNat, by omega⟩
    rw [qNw_val hN hi (by unfold qFr' at g3; omega)]
    exact g4 j g2) hn (qFa_c (s := qAt (qRs w.1) i) hS (by rcases qWA_rs hw i with h9 | h9 <;> omega)) hPh hL3 (by rw [show qGf w.1.2.1 (qAt (qRs w.1) i) = qFr' w.1 i from rfl, hE]; exact hF)
  rw [show qGf w.1.2.1 (qAt (qRs w.1) i) = qFr' w.1 i from rfl, hE] at h1
  exact h1
theorem cLR_character {w : qWd} {P : List (Int × Int)} {f : Nat → Nat} {vs : List Int} {hs : List qSC} {rd : qRd} {l3 g : List Int} (hC : qCl0 m r w P f vs hs rd l3 g) (hw : qWA w.1) {i k : Int} : qW m_LR_character 0 [qK 0, qI i, qI k, none] [] (qT0, m, r) (fun y σ => ∃ m', σ = (qT0, m', r) ∧ y = qI (fCharacter w i k) ∧ (∃ l, qCl0 m' r w P f vs hs rd l g) ∧ qFr (qPz 3) m m') := by
  have hC0 := hC
  obtain ⟨h, hHr, hN, hpre, hRg, hrd, hTx, hL3, hG, hHc, hHl, hHs⟩ := hC
  have hn := hN.1
  have hS := hN.2.1
  have hV := qNw_V hN hw
  have e2 := hn.2.2.1
  have e3 := hn.2.2.2.1
  have e4 := hn.2.2.2.2.1
  have h30 := hn.2.2.2.2.2.1
  have h40 := hS.1
  have hrl := qRs_len w.1
  unfold fCharacter
  refine qr_al rfl rfl (w := ?_)
  refine qr_gr rfl kd_0 (hr := (rf_7_6 h)) (w := ?_)
  refine qr_il rfl rfl (w := ?_)
  refine qr_callP rfl (sState_has (kState h) hn) (qrcv1 kd_144) (w := ?_)
  refine qr_ifeqB rfl (fun hc => ?_) (fun hc => ?_)
  · refine qr_const rfl (w := ?_)
    refine qW_ireturn rfl ⟨m, rfl, congrArg qI ?_, ⟨l3, hC0⟩, qFr_rf⟩
    rw [if_pos]
    simp only [decide_eq_true_eq, decide_eq_false_iff_not, ne_eq, Decidable.not_not] at *
    omega
  · refine qr_il rfl rfl (w := ?_)
    refine qr_ifge rfl (fun hcf => ?_) (fun hcf => ?_)
    · refine qr_al rfl rfl (w := ?_)
      refine qr_al rfl rfl (w := ?_)
      refine qr_il rfl rfl (w := ?_)
      refine qr_callP rfl (sLR_formOf h hn hS) (qrcv1 kd_0) (w := ?_)
      refine qr_il rfl rfl (w := ?_)
      have h9 := of_decide_eq_true hc
      obtain ⟨q1, q2⟩ := qHas_lt h9
      obtain ⟨i, rfl⟩ : ∃ y : Nat, i = y := ⟨i.toNat, by omega⟩
      have hF := qTextFit hw (by omega) h9
      refine qr_callA rfl (cLR_text hC0 hw (by omega) h9) (qrcv1 kd_0) (w := fun _ σ hσ => ?_)
      obtain ⟨m1, rfl, rfl, hl1, hf1⟩ := hσ
      have hC1 := qCl0_line hC0 hl1 hf1
      refine qr_is3 rfl (w := ?_)
      refine qr_il rfl rfl (w := ?_)
      refine qr_il rfl rfl (w := ?_)
      refine qr_icge rfl (fun hcft => ?_) (fun hcft => ?_)
      · refine qr_const rfl (w := ?_)
        refine qW_ireturn rfl ?_
        refine ⟨m1, rfl, congrArg qI ?_, ⟨_, hC1⟩, hf1⟩
        rw [if_neg (by omega)]
        all_goals (unfold qAt; rw [if_neg (by omega)])
      · refine qr_al rfl rfl (w := ?_)
        refine qr_gr rfl kd_0 (hr := (rf_7_1 h)) (w := ?_)
        refine qr_il rfl rfl (w := ?_)
        refine qr_callP rfl (sRow_at (kLine h) hl1 hF) (qrcv1 (kLine h).1) (w := ?_)
        refine qr_goto rfl (w := ?_)
        refine qW_ireturn rfl ?_
        refine ⟨m1, rfl, congrArg qI ?_, ⟨_, hC1⟩, hf1⟩
        rw [if_neg (by omega)]
        all_goals (unfold qAt; rw [if_neg (by omega)])
    · refine qr_const rfl (w := ?_)
      refine qW_ireturn rfl ⟨m, rfl, congrArg qI ?_, ⟨l3, hC0⟩, qFr_rf⟩
      rw [if_pos]
      simp only [decide_eq_true_eq, decide_eq_false_iff_not, ne_eq, Decidable.not_not] at *
      omega
theorem cLR_record {w : qWd} {P : List (Int × Int)} {f : Nat → Nat} {vs : List Int} {hs : List qSC} {rd : qRd} {l3 g : List Int} (hC : qCl0 m r w P f vs hs rd l3 g) (hw : qWA w.1) {i x : Int} : qW m_LR_record 0 [qK 0, qI i, qI x, none] [] (qT0, m, r) (fun y σ => ∃ m', σ = (qT0, m', r) ∧ y = qI (fRecord w i x) ∧ (∃ l, qCl0 m' r w P f vs hs rd l g) ∧ qFr (qPz 3) m m') := by
  have hC0 := hC
  obtain ⟨h, hHr, hN, hpre, hRg, hrd, hTx, hL3, hG, hHc, hHl, hHs⟩ := hC
  have hn := hN.1
  have hS := hN.2.1
  have hV := qNw_V hN hw
  have e2 := hn.2.2.1
  have e3 := hn.2.2.2.1
  have e4 := hn.2.2.2.2.1
  have h30 := hn.2.2.2.2.2.1
  have h40 := hS.1
  have hrl := qRs_len w.1
  unfold fRecord
  by_cases h9 : qAt (qRs w.1) i = -9
  · rw [if_pos h9]
    refine qr_al rfl rfl (w := ?_)
    refine qr_gr rfl kd_0 (hr := (rf_7_6 h)) (w := ?_)
    refine qr_il rfl rfl (w := ?_)
    refine qr_callP rfl (sState_has (kState h) hn) (qrcv1 kd_144) (w := ?_)
    refine qr_ifneB rfl (fun hc => absurd h9 (of_decide_eq_true hc)) (fun hc => ?_)
    refine qr_const rfl (w := ?_)
    refine qW_ireturn rfl ?_
    exact ⟨m, rfl, rfl, ⟨l3, hC0⟩, qFr_rf⟩
  · rw [if_neg h9]
    obtain ⟨q1, q2⟩ := qHas_lt h9
    obtain ⟨i, rfl⟩ : ∃ y : Nat, i = y := ⟨i.toNat, by omega⟩
    obtain ⟨g3, g4⟩ := qWA_val hw (i := i) (by omega) h9
    have g10 := (hw.2.2.2.2.2 w.1.2.2.2[i] (List.getElem_mem _)).1
    have glv := qLv_le (qFr' w.1 i)
    by_cases c0 : x = 0
    · subst c0
      rw [if_pos rfl]
      refine qr_al rfl rfl (w := ?_)
      refine qr_gr rfl kd_0 (hr := (rf_7_6 h)) (w := ?_)
      refine qr_il rfl rfl (w := ?_)
      refine qr_callP rfl (sState_has (kState h) hn) (qrcv1 kd_144) (w := ?_)
      refine qr_ifneB rfl (fun hc => ?_) (fun hc => absurd (of_decide_eq_false hc) (fun e => e h9))
      refine qr_al rfl rfl (w := ?_)
      refine qr_il rfl rfl (w := ?_)
      refine qr_callP rfl (sLR_formOf h hn hS) (qrcv1 kd_0) (w := ?_)
      refine qr_as3 rfl (w := ?_)
      refine qr_il rfl rfl (w := ?_)
      refine qr_swin rfl (by decide) (t := 56) rfl (w := ?_)
      refine qr_al rfl rfl (w := ?_)
      refine qr_gr rfl kd_0 (hr := (rf_7_6 h)) (w := ?_)
      refine qr_il rfl rfl (w := ?_)
      refine qr_callP rfl (sState_shapeOf (kState h) hn) (qrcv1 kd_144) (w := ?_)
      refine qW_ireturn rfl ?_
      exact ⟨m, rfl, rfl, ⟨l3, hC0⟩, qFr_rf⟩
    by_cases c1 : x = 1
    · subst c1
      rw [if_neg (by decide)]
      rw [if_pos rfl]
      refine qr_al rfl rfl (w := ?_)
      refine qr_gr rfl kd_0 (hr := (rf_7_6 h)) (w := ?_)
      refine qr_il rfl rfl (w := ?_)
      refine qr_callP rfl (sState_has (kState h) hn) (qrcv1 kd_144) (w := ?_)
      refine qr_ifneB rfl (fun hc => ?_) (fun hc => absurd (of_decide_eq_false hc) (fun e => e h9))
      refine qr_al rfl rfl (w := ?_)
      refine qr_il rfl rfl (w := ?_)
      refine qr_callP rfl (sLR_formOf h hn hS) (qrcv1 kd_0) (w := ?_)
      refine qr_as3 rfl (w := ?_)
      refine qr_il rfl rfl (w := ?_)
      refine qr_swin rfl (by decide) (t := 65) rfl (w := ?_)
      refine qr_al rfl rfl (w := ?_)
      refine qr_callP rfl (sForm_leaves (qFa_k h (qAt (qRs w.1) i)) (qFa_c (s := qAt (qRs w.1) i) hS (by rcases qWA_rs hw i with h8 | h8 <;> omega))) (qrcv1 (qFa_k h (qAt (qRs w.1) i)).1) (w := ?_)
      refine qW_ireturn rfl ?_
      exact ⟨m, rfl, rfl, ⟨l3, hC0⟩, qFr_rf⟩
    by_cases c2 : x = 2
    · subst c2
      rw [if_neg (by decide)]
      rw [if_neg (by decide)]
      rw [if_pos rfl]
      refine qr_al rfl rfl (w := ?_)
      refine qr_gr rfl kd_0 (hr := (rf_7_6 h)) (w := ?_)
      refine qr_il rfl rfl (w := ?_)
      refine qr_callP rfl (sState_has (kState h) hn) (qrcv1 kd_144) (w := ?_)
      refine qr_ifneB rfl (fun hc => ?_) (fun hc => absurd (of_decide_eq_false hc) (fun e => e h9))
      refine qr_al rfl rfl (w := ?_)
      refine qr_il rfl rfl (w := ?_)
      refine qr_callP rfl (sLR_formOf h hn hS) (qrcv1 kd_0) (w := ?_)
      refine qr_as3 rfl (w := ?_)
      refine qr_il rfl rfl (w := ?_)
      refine qr_swin rfl (by decide) (t := 70) rfl (w := ?_)
      refine qr_al rfl rfl (w := ?_)
      refine qr_callP rfl (sForm_branches (qFa_k h (qAt (qRs w.1) i)) (qFa_c (s := qAt (qRs w.1) i) hS (by rcases qWA_rs hw i with h8 | h8 <;> omega))) (qrcv1 (qFa_k h (qAt (qRs w.1) i)).1) (w := ?_)
      refine qW_ireturn rfl ?_
      exact ⟨m, rfl, rfl, ⟨l3, hC0⟩, qFr_rf⟩
    by_cases c3 : x = 3
    · subst c3
      rw [if_neg (by decide)]
      rw [if_neg (by decide)]
      rw [if_neg (by decide)]
      rw [if_pos rfl]
      refine qr_al rfl rfl (w := ?_)
      refine qr_gr rfl kd_0 (hr := (rf_7_6 h)) (w := ?_)
      refine qr_il rfl rfl (w := ?_)
      refine qr_callP rfl (sState_has (kState h) hn) (qrcv1 kd_144) (w := ?_)
      refine qr_ifneB rfl (fun hc => ?_) (fun hc => absurd (of_decide_eq_false hc) (fun e => e h9))
      refine qr_al rfl rfl (w := ?_)
      refine qr_il rfl rfl (w := ?_)
      refine qr_callP rfl (sLR_formOf h hn hS) (qrcv1 kd_0) (w := ?_)
      refine qr_as3 rfl (w := ?_)
      refine qr_il rfl rfl (w := ?_)
      refine qr_swin rfl (by decide) (t := 75) rfl (w := ?_)
      refine qr_al rfl rfl (w := ?_)
      refine qr_al rfl rfl (w := ?_)
      refine qr_il rfl rfl (w := ?_)
      refine qr_callA rfl (cLR_text hC0 hw (by omega) h9) (qrcv1 kd_0) (w := fun _ σ hσ => ?_)
      obtain ⟨m1, rfl, rfl, hl1, hf1⟩ := hσ
      have hC1 := qCl0_line hC0 hl1 hf1
      refine qW_ireturn rfl ?_
      exact ⟨m1, rfl, rfl, ⟨_, hC1⟩, hf1⟩
    by_cases c4 : x = 4
    · subst c4
      rw [if_neg (by decide)]
      rw [if_neg (by decide)]
      rw [if_neg (by decide)]
      rw [if_neg (by decide)]
      rw [if_pos rfl]
      refine qr_al rfl rfl (w := ?_)
      refine qr_gr rfl kd_0 (hr := (rf_7_6 h)) (w := ?_)
      refine qr_il rfl rfl (w := ?_)
      refine qr_callP rfl (sState_has (kState h) hn) (qrcv1 kd_144) (w := ?_)
      refine qr_ifneB rfl (fun hc => ?_) (fun hc => absurd (of_decide_eq_false hc) (fun e => e h9))
      refine qr_al rfl rfl (w := ?_)
      refine qr_il rfl rfl (w := ?_)
      refine qr_callP rfl (sLR_formOf h hn hS) (qrcv1 kd_0) (w := ?_)
      refine qr_as3 rfl (w := ?_)
      refine qr_il rfl rfl (w := ?_)
      refine qr_swin rfl (by decide) (t := 82) rfl (w := ?_)
      refine qr_al rfl rfl (w := ?_)
      refine qr_il rfl rfl (w := ?_)
      refine qr_al rfl rfl (w := ?_)
      refine qr_callP rfl (sForm_leaves (qFa_k h (qAt (qRs w.1) i)) (qFa_c (s := qAt (qRs w.1) i) hS (by rcases qWA_rs hw i with h8 | h8 <;> omega))) (qrcv1 (qFa_k h (qAt (qRs w.1) i)).1) (w := ?_)
      obtain ⟨nl, hnl⟩ : ∃ y : Nat, qLv (qFr' w.1 i) = y := ⟨(qLv (qFr' w.1 i)).toNat, by omega⟩
      have hnl2 : qLv (qGf w.1.2.1 (qAt (qRs w.1) i)) = nl := hnl
      rw [hnl2]
      refine qr_callP rfl (sLR_sumOfRecord (i := i) (n := nl) h hn hS (by omega) (by omega) (fun j hj => by
        have h7 := g4 j (by omega)
        rw [← qNw_val hN (i := i) (j := j) (by omega) (by omega), show ((i : Int) * 10 + j) = i * 10 + j from rfl] at h7
        exact h7)) (qrcv1 kd_0) (w := ?_)
      refine qW_ireturn rfl ?_
      refine ⟨m, rfl, congrArg qI ?_, ⟨l3, hC0⟩, qFr_rf⟩
      rw [hnl, Int.toNat_natCast]
      exact qSm_congr _ _ (fun j _ hj => qNw_val hN (by omega) (by omega))
    rw [if_neg c0]
    rw [if_neg c1]
    rw [if_neg c2]
    rw [if_neg c3]
    rw [if_neg c4]
    refine qr_al rfl rfl (w := ?_)
    refine qr_gr rfl kd_0 (hr := (rf_7_6 h)) (w := ?_)
    refine qr_il rfl rfl (w := ?_)
    refine qr_callP rfl (sState_has (kState h) hn) (qrcv1 kd_144) (w := ?_)
    refine qr_ifneB rfl (fun hc => ?_) (fun hc => absurd (of_decide_eq_false hc) (fun e => e h9))
    refine qr_al rfl rfl (w := ?_)
    refine qr_il rfl rfl (w := ?_)
    refine qr_callP rfl (sLR_formOf h hn hS) (qrcv1 kd_0) (w := ?_)
    refine qr_as3 rfl (w := ?_)
    refine qr_il rfl rfl (w := ?_)
    refine qr_swout rfl (by simp only [List.length_cons, List.length_nil]; omega) (w := ?_)
    refine qr_const rfl (w := ?_)
    refine qW_ireturn rfl ?_
    exact ⟨m, rfl, rfl, ⟨l3, hC0⟩, qFr_rf⟩
theorem cLR_shape {w : qWd} {P : List (Int × Int)} {f : Nat → Nat} {vs : List Int} {hs : List qSC} {rd : qRd} {l3 g : List Int} (hC : qCl0 m r w P f vs hs rd l3 g) (hw : qWA w.1) {s x : Int} : qW m_LR_shape 0 [qK 0, qI s, qI x, none] [] (qT0, m, r) (fun y σ => ∃ m', σ = (qT0, m', r) ∧ y = qI (fShape w s x) ∧ (∃ l, qCl0 m' r w P f vs hs rd l g) ∧ qFr (qPz 3) m m') := by
  have hC0 := hC
  obtain ⟨h, hHr, hN, hpre, hRg, hrd, hTx, hL3, hG, hHc, hHl, hHs⟩ := hC
  have hn := hN.1
  have hS := hN.2.1
  have hV := qNw_V hN hw
  have e2 := hn.2.2.1
  have e3 := hn.2.2.2.1
  have e4 := hn.2.2.2.2.1
  have h30 := hn.2.2.2.2.2.1
  have h40 := hS.1
  have hrl := qRs_len w.1
  unfold fShape
  by_cases hs : 0 ≤ s ∧ s < w.1.2.1.length
  · rw [if_neg (by omega)]
    have hPh : qPh m 6 P := by have h9 := hRg.1; rw [hrd] at h9; exact h9
    have hrg := qFa_rng s
    by_cases c0 : x = 0
    · subst c0
      rw [if_pos rfl]
      refine qr_al rfl rfl (w := ?_)
      refine qr_il rfl rfl (w := ?_)
      refine qr_callP rfl (sLR_isShape h hn hS) (qrcv1 kd_0) (w := ?_)
      refine qr_ifneB rfl (fun hc => ?_) (fun hc => absurd hs (of_decide_eq_false hc))
      refine qr_al rfl rfl (w := ?_)
      refine qr_gr rfl kd_0 (hr := (rf_7_4 h)) (w := ?_)
      refine qr_il rfl rfl (w := ?_)
      refine qr_callP rfl (sShapes_formAt h _) (qrcv1 kd_16) (w := ?_)
      refine qr_as3 rfl (w := ?_)
      refine qr_il rfl rfl (w := ?_)
      refine qr_swin rfl (by decide) (t := 56) rfl (w := ?_)
      refine qr_al rfl rfl (w := ?_)
      refine qr_gr rfl kd_0 (hr := (rf_7_6 h)) (w := ?_)
      refine qr_il rfl rfl (w := ?_)
      refine qr_callP rfl (sState_recordsWith (kState h) hn) (qrcv1 kd_144) (w := ?_)
      refine qW_ireturn rfl ?_
      exact ⟨m, rfl, rfl, ⟨l3, hC0⟩, qFr_rf⟩
    by_cases c1 : x = 1
    · subst c1
      rw [if_neg (by decide)]
      rw [if_pos rfl]
      refine qr_al rfl rfl (w := ?_)
      refine qr_il rfl rfl (w := ?_)
      refine qr_callP rfl (sLR_isShape h hn hS) (qrcv1 kd_0) (w := ?_)
      refine qr_ifneB rfl (fun hc => ?_) (fun hc => absurd hs (of_decide_eq_false hc))
      refine qr_al rfl rfl (w := ?_)
      refine qr_gr rfl kd_0 (hr := (rf_7_4 h)) (w := ?_)
      refine qr_il rfl rfl (w := ?_)
      refine qr_callP rfl (sShapes_formAt h _) (qrcv1 kd_16) (w := ?_)
      refine qr_as3 rfl (w := ?_)
      refine qr_il rfl rfl (w := ?_)
      refine qr_swin rfl (by decide) (t := 65) rfl (w := ?_)
      refine qr_al rfl rfl (w := ?_)
      refine qr_il rfl rfl (w := ?_)
      refine qr_callP rfl (sLR_isCommon h hn hS) (qrcv1 kd_0) (w := ?_)
      refine qr_ifeqB rfl (fun hct => ?_) (fun hct => ?_)
      · refine qr_const rfl (w := ?_)
        refine qW_ireturn rfl ?_
        refine ⟨m, rfl, congrArg qI ?_, ⟨l3, hC0⟩, qFr_rf⟩
        first | (rw [if_pos (of_decide_eq_true hcf)]; done) | (rw [if_neg (of_decide_eq_false hcf)]; done) | (rw [if_pos (of_decide_eq_true hct)]; done) | (rw [if_neg (of_decide_eq_false hct)]; done)
      · refine qr_const rfl (w := ?_)
        refine qr_goto rfl (w := ?_)
        refine qW_ireturn rfl ?_
        refine ⟨m, rfl, congrArg qI ?_, ⟨l3, hC0⟩, qFr_rf⟩
        first | (rw [if_pos (of_decide_eq_true hcf)]; done) | (rw [if_neg (of_decide_eq_false hcf)]; done) | (rw [if_pos (of_decide_eq_true hct)]; done) | (rw [if_neg (of_decide_eq_false hct)]; done)
    by_cases c2 : x = 2
    · subst c2
      rw [if_neg (by decide)]
      rw [if_neg (by decide)]
      rw [if_pos rfl]
      refine qr_al rfl rfl (w := ?_)
      refine qr_il rfl rfl (w := ?_)
      refine qr_callP rfl (sLR_isShape h hn hS) (qrcv1 kd_0) (w := ?_)
      refine qr_ifneB rfl (fun hc => ?_) (fun hc => absurd hs (of_decide_eq_false hc))
      refine qr_al rfl rfl (w := ?_)
      refine qr_gr rfl kd_0 (hr := (rf_7_4 h)) (w := ?_)
      refine qr_il rfl rfl (w := ?_)
      refine qr_callP rfl (sShapes_formAt h _) (qrcv1 kd_16) (w := ?_)
      refine qr_as3 rfl (w := ?_)
      refine qr_il rfl rfl (w := ?_)
      refine qr_swin rfl (by decide) (t := 79) rfl (w := ?_)
      refine qr_al rfl rfl (w := ?_)
      refine qr_callP rfl (sForm_leaves (qFa_k h s) (qFa_c (s := s) hS (by omega))) (qrcv1 (qFa_k h s).1) (w := ?_)
      refine qW_ireturn rfl ?_
      exact ⟨m, rfl, rfl, ⟨l3, hC0⟩, qFr_rf⟩
    by_cases c3 : x = 3
    · subst c3
      rw [if_neg (by decide)]
      rw [if_neg (by decide)]
      rw [if_neg (by decide)]
      rw [if_pos rfl]
      refine qr_al rfl rfl (w := ?_)
      refine qr_il rfl rfl (w := ?_)
      refine qr_callP rfl (sLR_isShape h hn hS) (qrcv1 kd_0) (w := ?_)
      refine qr_ifneB rfl (fun hc => ?_) (fun hc => absurd hs (of_decide_eq_false hc))
      refine qr_al rfl rfl (w := ?_)
      refine qr_gr rfl kd_0 (hr := (rf_7_4 h)) (w := ?_)
      refine qr_il rfl rfl (w := ?_)
      refine qr_callP rfl (sShapes_formAt h _) (qrcv1 kd_16) (w := ?_)
      refine qr_as3 rfl (w := ?_)
      refine qr_il rfl rfl (w := ?_)
      refine qr_swin rfl (by decide) (t := 84) rfl (w := ?_)
      refine qr_al rfl rfl (w := ?_)
      refine qr_callP rfl (sForm_branches (qFa_k h s) (qFa_c (s := s) hS (by omega))) (qrcv1 (qFa_k h s).1) (w := ?_)
      refine qW_ireturn rfl ?_
      exact ⟨m, rfl, rfl, ⟨l3, hC0⟩, qFr_rf⟩
    by_cases c4 : x = 4
    · subst c4
      rw [if_neg (by decide)]
      rw [if_neg (by decide)]
      rw [if_neg (by decide)]
      rw [if_neg (by decide)]
      rw [if_pos rfl]
      refine qr_al rfl rfl (w := ?_)
      refine qr_il rfl rfl (w := ?_)
      refine qr_callP rfl (sLR_isShape h hn hS) (qrcv1 kd_0) (w := ?_)
      refine qr_ifneB rfl (fun hc => ?_) (fun hc => absurd hs (of_decide_eq_false hc))
      refine qr_al rfl rfl (w := ?_)
      refine qr_gr rfl kd_0 (hr := (rf_7_4 h)) (w := ?_)
      refine qr_il rfl rfl (w := ?_)
      refine qr_callP rfl (sShapes_formAt h _) (qrcv1 kd_16) (w := ?_)
      refine qr_as3 rfl (w := ?_)
      refine qr_il rfl rfl (w := ?_)
      refine qr_swin rfl (by decide) (t := 89) rfl (w := ?_)
      refine qr_al rfl rfl (w := ?_)
      refine qr_al rfl rfl (w := ?_)
      refine qr_const rfl (w := ?_)
      have hE := qTextEq0 (vs := vs) hpre hw s
      have hF := qText_fit hw.1 (qWs_gf hw s) (nv := fun _ => []) (fun j _ _ => ⟨fun c hc => by simp at hc, by simp⟩)
      have h1 := sLR_writeText (x := -9) h (qFa_k h s) hrg.1 (by omega) (qWs_f hw _) (Or.inl rfl) (fun e => absurd rfl e) hn (qFa_c (s := s) hS (by omega)) hPh hL3 (by rw [hE]; exact hF)
      rw [hE] at h1
      refine qr_callA rfl h1 (qrcv1 kd_0) (w := fun _ σ hσ => ?_)
      obtain ⟨m1, rfl, rfl, hl1, hf1⟩ := hσ
      have hC1 := qCl0_line hC0 hl1 hf1
      refine qW_ireturn rfl ?_
      exact ⟨m1, rfl, rfl, ⟨_, hC1⟩, hf1⟩
    rw [if_neg c0]
    rw [if_neg c1]
    rw [if_neg c2]
    rw [if_neg c3]
    rw [if_neg c4]
    refine qr_al rfl rfl (w := ?_)
    refine qr_il rfl rfl (w := ?_)
    refine qr_callP rfl (sLR_isShape h hn hS) (qrcv1 kd_0) (w := ?_)
    refine qr_ifneB rfl (fun hc => ?_) (fun hc => absurd hs (of_decide_eq_false hc))
    refine qr_al rfl rfl (w := ?_)
    refine qr_gr rfl kd_0 (hr := (rf_7_4 h)) (w := ?_)
    refine qr_il rfl rfl (w := ?_)
    refine qr_callP rfl (sShapes_formAt h _) (qrcv1 kd_16) (w := ?_)
    refine qr_as3 rfl (w := ?_)
    refine qr_il rfl rfl (w := ?_)
    refine qr_swout rfl (by simp only [List.length_cons, List.length_nil]; omega) (w := ?_)
    refine qr_const rfl (w := ?_)
    refine qW_ireturn rfl ?_
    exact ⟨m, rfl, rfl, ⟨l3, hC0⟩, qFr_rf⟩
  · rw [if_pos hs]
    refine qr_al rfl rfl (w := ?_)
    refine qr_il rfl rfl (w := ?_)
    refine qr_callP rfl (sLR_isShape h hn hS) (qrcv1 kd_0) (w := ?_)
    refine qr_ifneB rfl (fun hc => absurd (of_decide_eq_true hc) hs) (fun hc => ?_)
    refine qr_const rfl (w := ?_)
    refine qW_ireturn rfl ?_
    exact ⟨m, rfl, rfl, ⟨l3, hC0⟩, qFr_rf⟩
