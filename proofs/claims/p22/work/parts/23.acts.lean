/-! The class's methods that change something (but read) -/
variable {m : Nat → Int → Int} {r : Nat → Int → Option Nat}
/-- the present state with other records -/
def qRc (a : qAS) (rc : List (Int × List Int)) : qAS := (a.1, a.2.1, a.2.2.1, rc)
def qGet (a : qAS) (i : Int) : Int × List Int := a.2.2.2.getD i.toNat (-9, [])
def fAppend (w : qWd) (c : Int) : Int := if c < 1 ∨ 255 < c then -1 else if 80 ≤ w.2.2.length then -3 else w.2.2.length + 1
def gAppend (w : qWd) (c : Int) : qWd := if c < 1 ∨ 255 < c ∨ 80 ≤ w.2.2.length then w else (w.1, w.2.1, w.2.2 ++ [c])
def gClear (w : qWd) : qWd := (w.1, w.2.1, [])
def gAct (w : qWd) (a : qAS) : qWd := (a, qPush w.2.1 w.1, w.2.2)
def aDiscard (a : qAS) (i : Int) : qAS := qRc a (a.2.2.2.set i.toNat (-9, (qGet a i).2))
def fDiscard (w : qWd) (i : Int) : Int := if qAt (qRs w.1) i = -9 then -1 else qNe (qRs (aDiscard w.1 i))
def gDiscard (w : qWd) (i : Int) : qWd := if qAt (qRs w.1) i = -9 then w else gAct w (aDiscard w.1 i)
def aChange (a : qAS) (i p v : Int) : qAS := qRc a (a.2.2.2.set i.toNat ((qGet a i).1, (qGet a i).2.set (qLp (qFr' a i) p 0).toNat v))
def qBad (w : qWd) (i p : Int) : Prop := qAt (qRs w.1) i = -9 ∨ ¬ (0 ≤ p ∧ p < w.1.1.length)
def fChange (w : qWd) (i p v : Int) : Int := if qAt (qRs w.1) i = -9 ∨ ¬ (0 ≤ p ∧ p < w.1.1.length) ∨ v < 0 ∨ 999 < v then -1 else if qLp (qFr' w.1 i) p 0 = -9 then -2 else qVv w.1 i (qLp (qFr' w.1 i) p 0)
def gChange (w : qWd) (i p v : Int) : qWd := if qAt (qRs w.1) i = -9 ∨ ¬ (0 ≤ p ∧ p < w.1.1.length) ∨ v < 0 ∨ 999 < v ∨ qLp (qFr' w.1 i) p 0 = -9 then w else gAct w (aChange w.1 i p v)
def aBound (a : qAS) (b : Int) : qAS := (a.1, a.2.1, b, a.2.2.2)
def fSetBound (w : qWd) (b : Int) : Int := if 1 ≤ b ∧ b ≤ 10 then qCom (qRs w.1) w.1.2.1.length b else -1
def gSetBound (w : qWd) (b : Int) : qWd := if 1 ≤ b ∧ b ≤ 10 then gAct w (aBound w.1 b) else w
def fUndo (w : qWd) : Int := if w.2.1.length = 0 then -2 else w.2.1.length - 1
def gUndo (w : qWd) : qWd := if w.2.1.length = 0 then w else (w.2.1.getD (w.2.1.length - 1) w.1, w.2.1.take (w.2.1.length - 1), w.2.2)
/-- what a drop leaves: the number of the shape, the state -/
def qDsh (a : qAS) (i p : Int) : Nat := qFs a.2.1 (qRes a.1 p (qFr' a i)) 0
def aDrop (a : qAS) (i p : Int) : qAS := (a.1, qLs a.2.1 (qDsh a i p) (qRes a.1 p (qFr' a i)), a.2.2.1, a.2.2.2.set i.toNat ((qDsh a i p : Nat), qDl a.1 p (qFr' a i) (qGet a i).2))
def fDrop (w : qWd) (i p : Int) : Int := if qAt (qRs w.1) i = -9 ∨ ¬ (0 ≤ p ∧ p < w.1.1.length) then -1 else if ¬ (p ∈ qFr' w.1 i) ∧ ¬ (100 + p ∈ qFr' w.1 i) then -2 else if 40 ≤ qDsh w.1 i p then -3 else (qDsh w.1 i p : Nat)
def gDrop (w : qWd) (i p : Int) : qWd := if qAt (qRs w.1) i = -9 ∨ ¬ (0 ≤ p ∧ p < w.1.1.length) ∨ (¬ (p ∈ qFr' w.1 i) ∧ ¬ (100 + p ∈ qFr' w.1 i)) ∨ 40 ≤ qDsh w.1 i p then w else gAct w (aDrop w.1 i p)
theorem qPush_len {α β : Type} {a : List α} {b : List β} {x : α} {y : β} (h : a.length = b.length) : (qPush a x).length = (qPush b y).length := by
  unfold qPush
  rw [h]
  split <;> simp [h]
theorem qPush_at {a : List qSC} {b : List qAS} {x : qSC} {y : qAS} (h : a.length = b.length) (hr : ∀ (i : Nat) (h : i < a.length) (h' : i < b.length), qCn a[i] b[i]) (hx : qCn x y) : ∀ (i : Nat) (h : i < (qPush a x).length) (h' : i < (qPush b y).length), qCn (qPush a x)[i] (qPush b y)[i] := by
  unfold qPush
  rw [h]
  by_cases h5 : b.length < 5
  · simp only [if_pos h5]
    intro i h1 h2
    rw [List.length_append] at h1 h2
    simp only [List.length_cons, List.length_nil] at h1 h2
    by_cases hi : i < b.length
    · rw [List.getElem_append_left (by omega), List.getElem_append_left hi]
      exact hr i _ _
    · have e1 : i = a.length := by omega
      have e2 : i = b.length := by omega
      rw [List.getElem_append_right (by omega), List.getElem_append_right (by omega)]
      simp only [List.getElem_singleton]
      exact hx
  · simp only [if_neg h5]
    intro i h1 h2
    rw [List.length_append, List.length_tail] at h1 h2
    simp only [List.length_cons, List.length_nil] at h1 h2
    by_cases hi : i < b.length - 1
    · rw [List.getElem_append_left (by rw [List.length_tail]; omega), List.getElem_append_left (by rw [List.length_tail]; omega), List.getElem_tail, List.getElem_tail]
      exact hr (i + 1) (by omega) (by omega)
    · rw [List.getElem_append_right (by rw [List.length_tail]; omega), List.getElem_append_right (by rw [List.length_tail]; omega)]
      simp only [List.getElem_singleton]
      exact hx
theorem cKeep {w : qWd} {P : List (Int × Int)} {f : Nat → Nat} {vs : List Int} {hs : List qSC} {rd : qRd} {l3 g : List Int} (hC : qCl0 m r w P f vs hs rd l3 g) : qW m_Hist_keep 0 [qK 149, qK 144, none] [] (qT0, m, r) (fun _ σ => ∃ m1 r1 f1 hs1, σ = (qT0, m1, r1) ∧ qCl0 m1 r1 (w.1, qPush w.2.1 w.1, w.2.2) P f1 vs hs1 rd l3 g ∧ qFr (qIv 149 176) m m1) := by
  obtain ⟨h, hHr, ⟨hn, hS, hV⟩, hpre, hRg, hrd, hTx, hL3, hG, hHc, hHl, hHs⟩ := hC
  refine qW_mono (sHist_keep (c := (qRs w.1, vs, (w.1.1.length : Int), (w.1.2.1.length : Int), w.1.2.2.1)) h hHr hHc hn) (fun x σ hσ => ?_)
  obtain ⟨m1, r1, f1, rfl, g1, g2, g3, g4⟩ := hσ
  have nn : ∀ a, a < 149 → ¬ qIv 149 176 a := by intro a ha; show ¬ (149 ≤ a ∧ a < 176); omega
  refine ⟨m1, r1, f1, _, rfl, ⟨g1, g2, ⟨qSc_fr hn g4 (fun a h1 h2 => nn a (by omega)), qSh_fr hS g4 (fun a h1 h2 => nn a (by omega)), hV⟩, hpre, qRg_fr hRg g4 (fun a h1 h2 => nn a (by omega)), hrd, qRw_fr hTx g4 (nn _ (by omega)) (nn _ (by omega)), qRw_fr hL3 g4 (nn _ (by omega)) (nn _ (by omega)), qFm_fr hG g4 (nn _ (by omega)) (nn _ (by omega)) (nn _ (by omega)), g3, qPush_len hHl, qPush_at hHl hHs ⟨rfl, hV, rfl, rfl, rfl⟩⟩, g4⟩
/-- the present state is written -/
theorem qCl0_now {m' : Nat → Int → Int} {w : qWd} {a' : qAS} {P : List (Int × Int)} {f : Nat → Nat} {vs vs' : List Int} {hs : List qSC} {rd : qRd} {l3 g : List Int} (hC : qCl0 m r w P f vs hs rd l3 g) (hN : qNw m' a' vs') (hp : a'.1 <+: P) (hf : qFr (fun a => (18 ≤ a ∧ a < 138) ∨ (144 ≤ a ∧ a < 149)) m m') : qCl0 m' r (a', w.2.1, w.2.2) P f vs' hs rd l3 g := by
  obtain ⟨h1, h2, h3, h6, h7, h8, h9, h10, h11, h12, h13⟩ := hC
  exact ⟨h1, h2, hN, hp, qRg_fr h7 hf (fun a g1 g2 => by omega), h8, qRw_fr h9 hf (by omega) (by omega), qRw_fr h10 hf (by omega) (by omega), qFm_fr h11 hf (by omega) (by omega) (by omega), qHc_fr h2 h12 hf (fun a g1 g2 => by omega), h13⟩
theorem qRs_set (a : qAS) (i : Nat) (x : Int × List Int) : qRs (qRc a (a.2.2.2.set i x)) = (qRs a).set i x.1 := by
  show (a.2.2.2.set i x).map Prod.fst = (a.2.2.2.map Prod.fst).set i x.1
  rw [List.map_set]
theorem qGet_at {a : qAS} {i : Nat} (h : i < a.2.2.2.length) : qGet a i = a.2.2.2[i] := by
  unfold qGet
  rw [Int.toNat_natCast, List.getD_eq_getElem?_getD, List.getElem?_eq_getElem h]
  rfl
/-- one record's values are written, or only its shape -/
theorem qVr_set {a : qAS} {vs vs' : List Int} {i : Nat} {x : Int × List Int} (hV : ∀ (j : Nat) (h : j < a.2.2.2.length), qVr vs j a.2.2.2[j].2) (hl : ∀ rc ∈ a.2.2.2, rc.2.length ≤ 10) (hx : i < a.2.2.2.length → qVr vs' i x.2) (ho : ∀ b : Int, b < 10 * i ∨ 10 * i + 10 ≤ b → qAt vs' b = qAt vs b) : ∀ (j : Nat) (h : j < (a.2.2.2.set i x).length), qVr vs' j (a.2.2.2.set i x)[j].2 := by
  intro j hj
  rw [List.length_set] at hj
  rw [List.getElem_set]
  split
  · rename_i e
    subst e
    exact hx hj
  · rename_i e
    intro k hk
    have h10 := hl a.2.2.2[j] (List.getElem_mem _)
    rw [ho _ (by omega)]
    exact hV j hj k hk
theorem qVr_pt {vs : List Int} {i : Nat} {V : List Int} {j : Nat} {x : Int} (h : qVr vs i V) (hl : V.length ≤ 10) (hv : i * 10 + j < vs.length) (hj : j < 10) : qVr (vs.set (i * 10 + j) x) i (V.set j x) := by
  intro k hk
  rw [List.length_set] at hk
  rw [qAt_set hv, List.getD_eq_getElem?_getD]
  by_cases he : k = j
  · subst he
    rw [if_pos (by omega), List.getElem?_set_self hk]
    rfl
  · rw [if_neg (by omega), List.getElem?_set_ne (by omega), h k hk, List.getD_eq_getElem?_getD]
theorem qset_self {l : List Int} {i : Nat} {x : Int} (h : l[i]? = some x) : l.set i x = l := by
  apply List.ext_getElem?
  intro j
  by_cases hj : i = j
  · subst hj
    rw [List.getElem?_set_self (List.getElem?_eq_some_iff.mp h).1, h]
  · rw [List.getElem?_set_ne hj]
theorem cLR_append {w : qWd} (hC : qCp m r w) (hw : qWW w) {c : Int} : qW m_LR_append 0 [qK 0, qI c] [] (qT0, m, r) (fun x σ => ∃ m' r', σ = (qT0, m', r') ∧ x = qI (fAppend w c) ∧ qCp m' r' (gAppend w c) ∧ qFr (qIv 0 176) m m') := by
  obtain ⟨P, f, vs, hs, rd, l3, g, hC0⟩ := hC
  have hwA := hw.1
  have hC1 := hC0
  obtain ⟨h, hHr, hN, hpre, hRg, hrd, hTx, hL3, hG, hHc, hHl, hHs⟩ := hC1
  have hn := hN.1
  have hS := hN.2.1
  have e2 := hn.2.2.1
  have e3 := hn.2.2.2.1
  have e4 := hn.2.2.2.2.1
  have h30 := hn.2.2.2.2.2.1
  have h40 := hS.1
  have hrl := qRs_len w.1
  have h80 := hw.2.2.2.1
  unfold fAppend gAppend
  refine qr_il rfl rfl (w := ?_)
  refine qr_const rfl (w := ?_)
  refine qr_iclt rfl (fun hc => ?_) (fun hc => ?_)
  · refine qr_const rfl (w := ?_)
    refine qW_ireturn rfl ⟨m, r, rfl, congrArg qI ?_, ?_, qFr_rf⟩
    · rw [if_pos (by omega)]
    · rw [if_pos (by omega)]
      exact ⟨P, f, vs, hs, rd, l3, g, hC0⟩
  · refine qr_il rfl rfl (w := ?_)
    refine qr_const rfl (w := ?_)
    refine qr_icle rfl (fun hcf => ?_) (fun hcf => ?_)
    · refine qr_al rfl rfl (w := ?_)
      refine qr_gr rfl kd_0 (hr := (rf_7_0 h)) (w := ?_)
      refine qr_callP rfl (sRow_len (kText h) hTx) (qrcv1 (kText h).1) (w := ?_)
      refine qr_const rfl (w := ?_)
      refine qr_iclt rfl (fun hcft => ?_) (fun hcft => ?_)
      · refine qr_al rfl rfl (w := ?_)
        refine qr_gr rfl kd_0 (hr := (rf_7_0 h)) (w := ?_)
        refine qr_il rfl rfl (w := ?_)
        refine qr_callV rfl (sRow_add (kText h) hTx (by omega)) (qrcv1 (kText h).1) (w := fun _ σ hσ => ?_)
        obtain ⟨m1, rfl, hT1, hf1⟩ := hσ
        refine qr_al rfl rfl (w := ?_)
        refine qr_gr rfl kd_0 (hr := (rf_7_0 h)) (w := ?_)
        refine qr_callP rfl (sRow_len (kText h) hT1) (qrcv1 (kText h).1) (w := ?_)
        refine qW_ireturn rfl ?_
        have nn : ∀ a, 3 ≤ a → ¬ qPz 1 a := by intro a ha; show ¬ (a = 1 ∨ a = 2); omega
        refine ⟨m1, r, rfl, congrArg qI ?_, ?_, qFr_mo hf1 (fun a ha => ⟨by omega, by rcases ha with rfl | rfl <;> omega⟩)⟩
        · rw [if_neg (by omega), if_neg (by omega), List.length_append]
          simp only [List.length_cons, List.length_nil]
          omega
        · rw [if_neg (by omega)]
          exact ⟨P, f, vs, hs, rd, l3, g, h, hHr, ⟨qSc_fr hn hf1 (fun a g1 g2 => nn a (by omega)), qSh_fr hS hf1 (fun a g1 g2 => nn a (by omega)), hN.2.2⟩, hpre, qRg_fr hRg hf1 (fun a g1 g2 => nn a (by omega)), hrd, hT1, qRw_fr hL3 hf1 (nn _ (by omega)) (nn _ (by omega)), qFm_fr hG hf1 (nn _ (by omega)) (nn _ (by omega)) (nn _ (by omega)), qHc_fr hHr hHc hf1 (fun a g1 g2 => nn a (by omega)), hHl, hHs⟩
      · refine qr_const rfl (w := ?_)
        refine qW_ireturn rfl ⟨m, r, rfl, congrArg qI ?_, ?_, qFr_rf⟩
        · rw [if_neg (by omega), if_pos (by omega)]
        · rw [if_pos (by omega)]
          exact ⟨P, f, vs, hs, rd, l3, g, hC0⟩
    · refine qr_const rfl (w := ?_)
      refine qW_ireturn rfl ⟨m, r, rfl, congrArg qI ?_, ?_, qFr_rf⟩
      · rw [if_pos (by omega)]
      · rw [if_pos (by omega)]
        exact ⟨P, f, vs, hs, rd, l3, g, hC0⟩
theorem cLR_clearText {w : qWd} (hC : qCp m r w) (hw : qWW w) : qW m_LR_clearText 0 [qK 0, none] [] (qT0, m, r) (fun x σ => ∃ m' r', σ = (qT0, m', r') ∧ x = qI (w.2.2.length) ∧ qCp m' r' (gClear w) ∧ qFr (qIv 0 176) m m') := by
  obtain ⟨P, f, vs, hs, rd, l3, g, hC0⟩ := hC
  have hwA := hw.1
  have hC1 := hC0
  obtain ⟨h, hHr, hN, hpre, hRg, hrd, hTx, hL3, hG, hHc, hHl, hHs⟩ := hC1
  have hn := hN.1
  have hS := hN.2.1
  have e2 := hn.2.2.1
  have e3 := hn.2.2.2.1
  have e4 := hn.2.2.2.2.1
  have h30 := hn.2.2.2.2.2.1
  have h40 := hS.1
  have hrl := qRs_len w.1
  have h80 := hw.2.2.2.1
  refine qr_al rfl rfl (w := ?_)
  refine qr_gr rfl kd_0 (hr := (rf_7_0 h)) (w := ?_)
  refine qr_callP rfl (sRow_len (kText h) hTx) (qrcv1 (kText h).1) (w := ?_)
  refine qr_is1 rfl (w := ?_)
  refine qr_al rfl rfl (w := ?_)
  refine qr_gr rfl kd_0 (hr := (rf_7_0 h)) (w := ?_)
  refine qr_const rfl (w := ?_)
  refine qr_callV rfl (sRow_cut (k := 0) (kText h) hTx) (qrcv1 (kText h).1) (w := fun _ σ hσ => ?_)
  obtain ⟨m1, rfl, hT1, hf1⟩ := hσ
  rw [List.take_zero] at hT1
  refine qr_il rfl rfl (w := ?_)
  refine qW_ireturn rfl ?_
  have nn : ∀ a, 3 ≤ a → ¬ a = 1 := by intro a ha; omega
  refine ⟨m1, r, rfl, rfl, ?_, qFr_mo hf1 (fun a ha => ⟨by omega, by omega⟩)⟩
  exact ⟨P, f, vs, hs, rd, l3, g, h, hHr, ⟨qSc_fr hn hf1 (fun a g1 g2 => nn a (by omega)), qSh_fr hS hf1 (fun a g1 g2 => nn a (by omega)), hN.2.2⟩, hpre, qRg_fr hRg hf1 (fun a g1 g2 => nn a (by omega)), hrd, hT1, qRw_fr hL3 hf1 (nn _ (by omega)) (nn _ (by omega)), qFm_fr hG hf1 (nn _ (by omega)) (nn _ (by omega)) (nn _ (by omega)), qHc_fr hHr hHc hf1 (fun a g1 g2 => nn a (by omega)), hHl, hHs⟩
theorem cLR_discard {w : qWd} (hC : qCp m r w) (hw : qWW w) {i : Int} : qW m_LR_discard 0 [qK 0, qI i] [] (qT0, m, r) (fun x σ => ∃ m' r', σ = (qT0, m', r') ∧ x = qI (fDiscard w i) ∧ qCp m' r' (gDiscard w i) ∧ qFr (qIv 0 176) m m') := by
  obtain ⟨P, f, vs, hs, rd, l3, g, hC0⟩ := hC
  have hwA := hw.1
  have hC1 := hC0
  obtain ⟨h, hHr, hN, hpre, hRg, hrd, hTx, hL3, hG, hHc, hHl, hHs⟩ := hC1
  have hn := hN.1
  have hS := hN.2.1
  have e2 := hn.2.2.1
  have e3 := hn.2.2.2.1
  have e4 := hn.2.2.2.2.1
  have h30 := hn.2.2.2.2.2.1
  have h40 := hS.1
  have hrl := qRs_len w.1
  have h80 := hw.2.2.2.1
  unfold fDiscard gDiscard
  by_cases h9 : qAt (qRs w.1) i = -9
  · rw [if_pos h9, if_pos h9]
    refine qr_al rfl rfl (w := ?_)
    refine qr_gr rfl kd_0 (hr := (rf_7_6 h)) (w := ?_)
    refine qr_il rfl rfl (w := ?_)
    refine qr_callP rfl (sState_has (kState h) hn) (qrcv1 kd_144) (w := ?_)
    refine qr_ifneB rfl (fun hc => absurd h9 (of_decide_eq_true hc)) (fun hc => ?_)
    refine qr_const rfl (w := ?_)
    refine qW_ireturn rfl ?_
    exact ⟨m, r, rfl, rfl, ⟨P, f, vs, hs, rd, l3, g, hC0⟩, qFr_rf⟩
  · rw [if_neg h9, if_neg h9]
    obtain ⟨q1, q2⟩ := qHas_lt h9
    obtain ⟨i, rfl⟩ : ∃ y : Nat, i = y := ⟨i.toNat, by omega⟩
    refine qr_al rfl rfl (w := ?_)
    refine qr_gr rfl kd_0 (hr := (rf_7_6 h)) (w := ?_)
    refine qr_il rfl rfl (w := ?_)
    refine qr_callP rfl (sState_has (kState h) hn) (qrcv1 kd_144) (w := ?_)
    refine qr_ifneB rfl (fun hc => ?_) (fun hc => absurd (of_decide_eq_false hc) (fun e => e h9))
    refine qr_al rfl rfl (w := ?_)
    refine qr_gr rfl kd_0 (hr := (rf_7_7 h)) (w := ?_)
    refine qr_al rfl rfl (w := ?_)
    refine qr_gr rfl kd_0 (hr := (rf_7_6 h)) (w := ?_)
    refine qr_callV rfl (cKeep hC0) (qrcv1 kd_149) (w := fun _ σ hσ => ?_)
    obtain ⟨m1, r1, f1, hs1, rfl, hK, hf1⟩ := hσ
    have hK0 := hK
    obtain ⟨h, hHr, hN, hpre, hRg, hrd, hTx, hL3, hG, hHc, hHl, hHs⟩ := hK
    have hN : qNw m1 w.1 vs := hN
    have hpre : w.1.1 <+: P := hpre
    have hn := hN.1
    have hS := hN.2.1
    refine qr_al rfl rfl (w := ?_)
    refine qr_gr rfl kd_0 (hr := (rf_7_6 h)) (w := ?_)
    refine qr_il rfl rfl (w := ?_)
    refine qr_const rfl (w := ?_)
    refine qr_callV rfl (sState_setShapeOf (i := i) (x := -9) (kState h) hn (by omega)) (qrcv1 kd_144) (w := fun _ σ hσ => ?_)
    obtain ⟨m2, rfl, hn2, hf2⟩ := hσ
    have hq : qRs (aDiscard w.1 i) = (qRs w.1).set i (-9) := by unfold aDiscard; rw [Int.toNat_natCast, qRs_set]
    refine qr_al rfl rfl (w := ?_)
    refine qr_gr rfl kd_0 (hr := (rf_7_6 h)) (w := ?_)
    refine qr_callP rfl (sState_recordsLeft (kState h) hn2) (qrcv1 kd_144) (w := ?_)
    refine qW_ireturn rfl ?_
    refine ⟨m2, r1, rfl, congrArg qI ?_, ⟨P, f1, vs, hs1, rd, l3, g, ?_⟩, qFr_tr (qFr_mo hf1 (fun a ha => ⟨by omega, ha.2⟩)) (qFr_mo hf2 (fun a ha => ⟨by omega, by have := ha.2; omega⟩))⟩
    · rw [hq]
    · refine qCl0_now hK0 ⟨?_, qSh_fr hS hf2 (fun a g1 g2 => by show ¬ (145 ≤ a ∧ a < 147); omega), ?_⟩ hpre (qFr_mo hf2 (fun a ha => Or.inr ⟨by have := ha.1; omega, by have := ha.2; omega⟩))
      · rw [hq]
        exact hn2
      · unfold aDiscard
        rw [Int.toNat_natCast]
        refine qVr_set hN.2.2 (fun rc hrc => (hwA.2.2.2.2.2 rc hrc).1) (fun hi => ?_) (fun _ _ => rfl)
        rw [qGet_at hi]
        exact hN.2.2 i hi
theorem cLR_setBound {w : qWd} (hC : qCp m r w) (hw : qWW w) {b : Int} : qW m_LR_setBound 0 [qK 0, qI b] [] (qT0, m, r) (fun x σ => ∃ m' r', σ = (qT0, m', r') ∧ x = qI (fSetBound w b) ∧ qCp m' r' (gSetBound w b) ∧ qFr (qIv 0 176) m m') := by
  obtain ⟨P, f, vs, hs, rd, l3, g, hC0⟩ := hC
  have hwA := hw.1
  have hC1 := hC0
  obtain ⟨h, hHr, hN, hpre, hRg, hrd, hTx, hL3, hG, hHc, hHl, hHs⟩ := hC1
  have hn := hN.1
  have hS := hN.2.1
  have e2 := hn.2.2.1
  have e3 := hn.2.2.2.1
  have e4 := hn.2.2.2.2.1
  have h30 := hn.2.2.2.2.2.1
  have h40 := hS.1
  have hrl := qRs_len w.1
  have h80 := hw.2.2.2.1
  unfold fSetBound gSetBound
  by_cases hb : 1 ≤ b ∧ b ≤ 10
  · rw [if_pos hb, if_pos hb]
    refine qr_al rfl rfl (w := ?_)
    refine qr_il rfl rfl (w := ?_)
    refine qr_callP rfl sLR_isBound (qrcv1 kd_0) (w := ?_)
    refine qr_ifneB rfl (fun hc => ?_) (fun hc => absurd hb (of_decide_eq_false hc))
    refine qr_al rfl rfl (w := ?_)
    refine qr_gr rfl kd_0 (hr := (rf_7_7 h)) (w := ?_)
    refine qr_al rfl rfl (w := ?_)
    refine qr_gr rfl kd_0 (hr := (rf_7_6 h)) (w := ?_)
    refine qr_callV rfl (cKeep hC0) (qrcv1 kd_149) (w := fun _ σ hσ => ?_)
    obtain ⟨m1, r1, f1, hs1, rfl, hK, hf1⟩ := hσ
    have hK0 := hK
    obtain ⟨h, hHr, hN, hpre, hRg, hrd, hTx, hL3, hG, hHc, hHl, hHs⟩ := hK
    have hN : qNw m1 w.1 vs := hN
    have hpre : w.1.1 <+: P := hpre
    have hn := hN.1
    have hS := hN.2.1
    refine qr_al rfl rfl (w := ?_)
    refine qr_gr rfl kd_0 (hr := (rf_7_6 h)) (w := ?_)
    refine qr_il rfl rfl (w := ?_)
    refine qr_pi rfl kd_144 (w := ?_)
    refine qr_al rfl rfl (w := ?_)
    have up : qFr (fun a => a = 144) m1 (qup m1 144 4 b) := qFr_up rfl
    have hn2 : qSc (qup m1 144 4 b) 144 (qRs w.1) vs w.1.1.length w.1.2.1.length b := ⟨qRw_fr hn.1 up (by decide) (by decide), qRw_fr hn.2.1 up (by decide) (by decide), by rw [qup_i (by decide)]; exact hn.2.2.1, by rw [qup_i (by decide)]; exact hn.2.2.2.1, qup_s, hn.2.2.2.2.2⟩
    have hS2 := qSh_fr hS up (fun a g1 g2 => by show ¬ a = 144; omega)
    refine qr_callP rfl (sLR_commonShapes h hn2 hS2) (qrcv1 kd_0) (w := ?_)
    refine qW_ireturn rfl ?_
    refine ⟨_, r1, rfl, rfl, ⟨P, f1, vs, hs1, rd, l3, g, ?_⟩, qFr_tr (qFr_mo hf1 (fun a ha => ⟨by omega, ha.2⟩)) (qFr_mo up (fun a ha => ⟨by omega, by omega⟩))⟩
    exact qCl0_now hK0 ⟨hn2, hS2, hN.2.2⟩ hpre (qFr_mo up (fun a ha => Or.inr ⟨by omega, by omega⟩))
  · rw [if_neg hb, if_neg hb]
    refine qr_al rfl rfl (w := ?_)
    refine qr_il rfl rfl (w := ?_)
    refine qr_callP rfl sLR_isBound (qrcv1 kd_0) (w := ?_)
    refine qr_ifneB rfl (fun hc => absurd (of_decide_eq_true hc) hb) (fun hc => ?_)
    refine qr_const rfl (w := ?_)
    refine qW_ireturn rfl ?_
    exact ⟨m, r, rfl, rfl, ⟨P, f, vs, hs, rd, l3, g, hC0⟩, qFr_rf⟩
theorem cLR_undo {w : qWd} (hC : qCp m r w) (hw : qWW w) : qW m_LR_undo 0 [qK 0] [] (qT0, m, r) (fun x σ => ∃ m' r', σ = (qT0, m', r') ∧ x = qI (fUndo w) ∧ qCp m' r' (gUndo w) ∧ qFr (qIv 0 176) m m') := by
  obtain ⟨P, f, vs, hs, rd, l3, g, hC0⟩ := hC
  have hwA := hw.1
  have hC1 := hC0
  obtain ⟨h, hHr, hN, hpre, hRg, hrd, hTx, hL3, hG, hHc, hHl, hHs⟩ := hC1
  have hn := hN.1
  have hS := hN.2.1
  have e2 := hn.2.2.1
  have e3 := hn.2.2.2.1
  have e4 := hn.2.2.2.2.1
  have h30 := hn.2.2.2.2.2.1
  have h40 := hS.1
  have hrl := qRs_len w.1
  have h80 := hw.2.2.2.1
  unfold fUndo gUndo
  have hs5 := hHc.2.1
  by_cases hl0 : w.2.1.length = 0
  · rw [if_pos hl0, if_pos hl0]
    refine qr_al rfl rfl (w := ?_)
    refine qr_gr rfl kd_0 (hr := (rf_7_7 h)) (w := ?_)
    refine qr_callP rfl (sHist_size hHc) (qrcv1 kd_149) (w := ?_)
    refine qr_ifne rfl (fun hc => absurd hc (by omega)) (fun hc => ?_)
    refine qr_const rfl (w := ?_)
    refine qW_ireturn rfl ?_
    exact ⟨m, r, rfl, rfl, ⟨P, f, vs, hs, rd, l3, g, hC0⟩, qFr_rf⟩
  · rw [if_neg hl0, if_neg hl0]
    have hln : hs.length - 1 < hs.length := by omega
    have hcn := hHs (hs.length - 1) hln (by omega)
    have hgd : w.2.1.getD (w.2.1.length - 1) w.1 = w.2.1[hs.length - 1]'(by omega) := by
      rw [List.getD_eq_getElem?_getD, List.getElem?_eq_getElem (by omega)]
      simp [hHl]
    refine qr_al rfl rfl (w := ?_)
    refine qr_gr rfl kd_0 (hr := (rf_7_7 h)) (w := ?_)
    refine qr_callP rfl (sHist_size hHc) (qrcv1 kd_149) (w := ?_)
    refine qr_ifne rfl (fun hc => ?_) (fun hc => absurd hc (by omega))
    refine qr_al rfl rfl (w := ?_)
    refine qr_gr rfl kd_0 (hr := (rf_7_7 h)) (w := ?_)
    refine qr_al rfl rfl (w := ?_)
    refine qr_gr rfl kd_0 (hr := (rf_7_6 h)) (w := ?_)
    refine qr_callV rfl (sHist_restore h hHr hHc (by omega)) (qrcv1 kd_149) (w := fun _ σ hσ => ?_)
    obtain ⟨m1, rfl, hz1, hHc1, hf1⟩ := hσ
    refine qr_al rfl rfl (w := ?_)
    refine qr_gr rfl kd_0 (hr := (rf_7_7 h)) (w := ?_)
    refine qr_callP rfl (sHist_size hHc1) (qrcv1 kd_149) (w := ?_)
    refine qW_ireturn rfl ?_
    have nn : ∀ a, a < 144 → ¬ qIv 144 150 a := by intro a ha; show ¬ (144 ≤ a ∧ a < 150); omega
    refine ⟨m1, r, rfl, congrArg qI ?_, ?_, qFr_mo hf1 (fun a ha => ⟨by omega, by have := ha.2; omega⟩)⟩
    · rw [List.length_take]
      omega
    · have hpw := List.pairwise_append.mp hw.2.2.2.2
      have hpr := hpw.2.2 (w.2.1[hs.length - 1]'(by omega)) (List.getElem_mem _) w.1 (by simp)
      rw [hgd]
      generalize hbe : w.2.1[hs.length - 1]'(by omega) = b at hcn hpr ⊢
      obtain ⟨c1, c2, c3, c4, c5⟩ := hcn
      have hSb : qSh m1 b.2.1 := by
        have hS1 := qSh_fr hS hf1 (fun a g1 g2 => nn a (by omega))
        obtain ⟨X, hX⟩ := hpr.2
        have hXl := congrArg List.length hX
        rw [List.length_append] at hXl
        refine ⟨by omega, fun s hs' => ?_, hS1.2.2⟩
        have h7 := hS1.2.1 s (by omega)
        have h8 : w.1.2.1[s]'(by omega) = b.2.1[s] := by
          simp only [← hX]
          rw [List.getElem_append_left hs']
        rw [h8] at h7
        exact h7
      have hNb : qNw m1 b (hs[hs.length - 1]).2.1 := by
        refine ⟨?_, hSb, c2⟩
        have hz2 : qSc m1 144 (hs[hs.length - 1]).1 (hs[hs.length - 1]).2.1 (hs[hs.length - 1]).2.2.1 (hs[hs.length - 1]).2.2.2.1 (hs[hs.length - 1]).2.2.2.2 := hz1
        rw [c1, c3, c4, c5] at hz2
        exact hz2
      refine ⟨P, f, (hs[hs.length - 1]).2.1, hs.take (hs.length - 1), rd, l3, g, h, hHr, hNb, hpr.1.trans hpre, qRg_fr hRg hf1 (fun a g1 g2 => nn a (by omega)), hrd, qRw_fr hTx hf1 (nn _ (by omega)) (nn _ (by omega)), qRw_fr hL3 hf1 (nn _ (by omega)) (nn _ (by omega)), qFm_fr hG hf1 (nn _ (by omega)) (nn _ (by omega)) (nn _ (by omega)), hHc1, ?_, ?_⟩
      · show (hs.take (hs.length - 1)).length = (w.2.1.take (w.2.1.length - 1)).length
        rw [List.length_take, List.length_take]
        omega
      · intro i h1 h2
        rw [List.length_take] at h1
        show qCn (hs.take (hs.length - 1))[i] (w.2.1.take (w.2.1.length - 1))[i]
        rw [List.getElem_take, List.getElem_take]
        exact hHs i _ _
theorem cLR_change {w : qWd} (hC : qCp m r w) (hw : qWW w) {i p v : Int} : qW m_LR_change 0 [qK 0, qI i, qI p, qI v, none, none] [] (qT0, m, r) (fun x σ => ∃ m' r', σ = (qT0, m', r') ∧ x = qI (fChange w i p v) ∧ qCp m' r' (gChange w i p v) ∧ qFr (qIv 0 176) m m') := by
  obtain ⟨P, f, vs, hs, rd, l3, g, hC0⟩ := hC
  have hwA := hw.1
  have hC1 := hC0
  obtain ⟨h, hHr, hN, hpre, hRg, hrd, hTx, hL3, hG, hHc, hHl, hHs⟩ := hC1
  have hn := hN.1
  have hS := hN.2.1
  have e2 := hn.2.2.1
  have e3 := hn.2.2.2.1
  have e4 := hn.2.2.2.2.1
  have h30 := hn.2.2.2.2.2.1
  have h40 := hS.1
  have hrl := qRs_len w.1
  have h80 := hw.2.2.2.1
  unfold fChange gChange
  have h60 := hwA.1.1
  refine qr_al rfl rfl (w := ?_)
  refine qr_gr rfl kd_0 (hr := (rf_7_6 h)) (w := ?_)
  refine qr_il rfl rfl (w := ?_)
  refine qr_callP rfl (sState_has (kState h) hn) (qrcv1 kd_144) (w := ?_)
  refine qr_ifeqB rfl (fun hc => ?_) (fun hc => ?_)
  · simp only [decide_eq_true_eq, decide_eq_false_iff_not, ne_eq, Decidable.not_not] at *
    refine qr_const rfl (w := ?_)
    refine qW_ireturn rfl ⟨m, r, rfl, congrArg qI ?_, ?_, qFr_rf⟩
    · rw [if_pos (by omega)]
    · rw [if_pos (by omega)]
      exact ⟨P, f, vs, hs, rd, l3, g, hC0⟩
  · refine qr_al rfl rfl (w := ?_)
    refine qr_il rfl rfl (w := ?_)
    refine qr_callP rfl (sLR_isPath h hn hS) (qrcv1 kd_0) (w := ?_)
    refine qr_ifeqB rfl (fun hcf => ?_) (fun hcf => ?_)
    · simp only [decide_eq_true_eq, decide_eq_false_iff_not, ne_eq, Decidable.not_not] at *
      refine qr_const rfl (w := ?_)
      refine qW_ireturn rfl ⟨m, r, rfl, congrArg qI ?_, ?_, qFr_rf⟩
      · rw [if_pos (by omega)]
      · rw [if_pos (by omega)]
        exact ⟨P, f, vs, hs, rd, l3, g, hC0⟩
    · refine qr_il rfl rfl (w := ?_)
      refine qr_iflt rfl (fun hcff => ?_) (fun hcff => ?_)
      · simp only [decide_eq_true_eq, decide_eq_false_iff_not, ne_eq, Decidable.not_not] at *
        refine qr_const rfl (w := ?_)
        refine qW_ireturn rfl ⟨m, r, rfl, congrArg qI ?_, ?_, qFr_rf⟩
        · rw [if_pos (by omega)]
        · rw [if_pos (by omega)]
          exact ⟨P, f, vs, hs, rd, l3, g, hC0⟩
      · refine qr_il rfl rfl (w := ?_)
        refine qr_const rfl (w := ?_)
        refine qr_icle rfl (fun hcfff => ?_) (fun hcfff => ?_)
        · refine qr_al rfl rfl (w := ?_)
          refine qr_il rfl rfl (w := ?_)
          refine qr_callP rfl (sLR_formOf h hn hS) (qrcv1 kd_0) (w := ?_)
          refine qr_il rfl rfl (w := ?_)
          refine qr_callP rfl (sForm_leafPlace (qFa_k h (qAt (qRs w.1) i)) (qFa_c (s := qAt (qRs w.1) i) hS (by rcases qWA_rs hwA i with h9 | h9 <;> omega))) (qrcv1 (qFa_k h _).1) (w := ?_)
          refine qr_is4 rfl (w := ?_)
          refine qr_il rfl rfl (w := ?_)
          refine qr_const rfl (w := ?_)
          refine qr_icne rfl (fun hcffft => ?_) (fun hcffft => ?_)
          · refine qr_al rfl rfl (w := ?_)
            refine qr_gr rfl kd_0 (hr := (rf_7_7 h)) (w := ?_)
            refine qr_al rfl rfl (w := ?_)
            refine qr_gr rfl kd_0 (hr := (rf_7_6 h)) (w := ?_)
            refine qr_callV rfl (cKeep hC0) (qrcv1 kd_149) (w := fun _ σ hσ => ?_)
            obtain ⟨m1, r1, f1, hs1, rfl, hK, hf1⟩ := hσ
            have hK0 := hK
            obtain ⟨h, hHr, hN, hpre, hRg, hrd, hTx, hL3, hG, hHc, hHl, hHs⟩ := hK
            have hN : qNw m1 w.1 vs := hN
            have hpre : w.1.1 <+: P := hpre
            have hn := hN.1
            have hS := hN.2.1
            refine qr_al rfl rfl (w := ?_)
            refine qr_gr rfl kd_0 (hr := (rf_7_6 h)) (w := ?_)
            refine qr_il rfl rfl (w := ?_)
            refine qr_il rfl rfl (w := ?_)
            simp only [decide_eq_true_eq, decide_eq_false_iff_not, ne_eq, Decidable.not_not] at *
            have hlp : ¬ qLp (qFr' w.1 i) p 0 = -9 := by assumption
            have h9 : qAt (qRs w.1) i ≠ -9 := by assumption
            obtain ⟨i', j, hi', rfl, hj, hj2, hj3⟩ := qLp_val hwA h9 (by omega) hlp
            have hle : qLp (qGf w.1.2.1 (qAt (qRs w.1) (i' : Int))) p 0 = j := hj
            rw [hle]
            have hrl' := qRs_len w.1
            refine qr_callP rfl (sState_valueAt (i := i') (j := j) (kState h) hn (by omega) (by omega)) (qrcv1 kd_144) (w := ?_)
            refine qr_is5 rfl (w := ?_)
            refine qr_al rfl rfl (w := ?_)
            refine qr_gr rfl kd_0 (hr := (rf_7_6 h)) (w := ?_)
            refine qr_il rfl rfl (w := ?_)
            refine qr_il rfl rfl (w := ?_)
            refine qr_il rfl rfl (w := ?_)
            refine qr_callV rfl (sState_setValue (i := i') (j := j) (x := v) (kState h) hn (by omega) (by omega)) (qrcv1 kd_144) (w := fun _ σ hσ => ?_)
            obtain ⟨m2, rfl, hn2, hf2⟩ := hσ
            rw [Int.toNat_natCast] at hn2
            refine qr_il rfl rfl (w := ?_)
            refine qW_ireturn rfl ?_
            have hv30 := hn.2.2.2.2.2.2
            have hV10 := (hwA.2.2.2.2.2 w.1.2.2.2[i'] (List.getElem_mem _)).1
            have ha : aChange w.1 i' p v = qRc w.1 (w.1.2.2.2.set i' (w.1.2.2.2[i'].1, w.1.2.2.2[i'].2.set j v)) := by
              unfold aChange
              rw [hj, Int.toNat_natCast, Int.toNat_natCast, qGet_at hi']
            have hq : qRs (aChange w.1 i' p v) = qRs w.1 := by
              rw [ha, qRs_set]
              have h7 : (qRs w.1)[i']? = some w.1.2.2.2[i'].1 := by simp [qRs, hi']
              exact qset_self h7
            refine ⟨m2, r1, rfl, congrArg qI ?_, ?_, qFr_tr (qFr_mo hf1 (fun a ha => ⟨by omega, ha.2⟩)) (qFr_mo hf2 (fun a ha => ⟨by omega, by have := ha.2; omega⟩))⟩
            · rw [if_neg (by omega), if_neg hlp, qNw_val hN hi' hj2, hj]
            · rw [if_neg (by omega)]
              refine ⟨P, f1, vs.set (i' * 10 + j) v, hs1, rd, l3, g, qCl0_now hK0 ⟨?_, qSh_fr hS hf2 (fun a g1 g2 => by show ¬ (147 ≤ a ∧ a < 149); omega), ?_⟩ hpre (qFr_mo hf2 (fun a ha => Or.inr ⟨by have := ha.1; omega, by have := ha.2; omega⟩))⟩
              · rw [hq]
                exact hn2
              · rw [ha]
                refine qVr_set hN.2.2 (fun rc hrc => (hwA.2.2.2.2.2 rc hrc).1) (fun hi => qVr_pt (hN.2.2 i' hi) hV10 (by omega) hj3) (fun b hb => ?_)
                rw [qAt_set (by omega), if_neg (by omega)]
             
          · simp only [decide_eq_true_eq, decide_eq_false_iff_not, ne_eq, Decidable.not_not] at *
            refine qr_const rfl (w := ?_)
            refine qW_ireturn rfl ⟨m, r, rfl, congrArg qI ?_, ?_, qFr_rf⟩
            · rw [if_neg (by omega)]
              rw [if_pos (by assumption)]
            · have hq : qLp (qFr' w.1 i) p 0 = -9 := by assumption
              rw [if_pos (by omega)]
              exact ⟨P, f, vs, hs, rd, l3, g, hC0⟩
        · simp only [decide_eq_true_eq, decide_eq_false_iff_not, ne_eq, Decidable.not_not] at *
          refine qr_const rfl (w := ?_)
          refine qW_ireturn rfl ⟨m, r, rfl, congrArg qI ?_, ?_, qFr_rf⟩
          · rw [if_pos (by omega)]
          · rw [if_pos (by omega)]
            exact ⟨P, f, vs, hs, rd, l3, g, hC0⟩
theorem qRes_pre {ps P : List (Int × Int)} (h : ps <+: P) (hw : qWp ps) {fs : List Int} (hf : ∀ f ∈ fs, qPa f < ps.length) (d : Int) : qRes P d fs = qRes ps d fs := by
  unfold qRes
  exact List.filter_congr (fun f hf' => by rw [qWi_pre h hw d 4 _ (hf f hf')])
theorem qDl_pre {ps P : List (Int × Int)} (h : ps <+: P) (hw : qWp ps) (d : Int) : ∀ {fs : List Int} (V : List Int), (∀ f ∈ fs, qPa f < ps.length) → qDl P d fs V = qDl ps d fs V := by
  intro fs
  induction fs with
  | nil => intro V _; rfl
  | cons f t ih =>
    intro V hf
    have h1 := fun V' => ih V' (fun g hg => hf g (List.mem_cons_of_mem _ hg))
    simp only [qDl]
    rw [qWi_pre h hw d 4 _ (hf f List.mem_cons_self), h1, h1]
theorem qLs_len (ss : List (List Int)) (k : Nat) (fs : List Int) : ss.length ≤ (qLs ss k fs).length := by
  unfold qLs
  split <;> simp
theorem qLs_gf {ss : List (List Int)} {k : Nat} {fs : List Int} {s : Int} (h : s < ss.length) : qGf (qLs ss k fs) s = qGf ss s := by
  unfold qLs
  split
  · unfold qGf
    rw [List.length_append]
    by_cases h0 : 0 ≤ s
    · rw [if_pos ⟨h0, by omega⟩, if_pos ⟨h0, h⟩, List.getD_eq_getElem?_getD, List.getD_eq_getElem?_getD, List.getElem?_append_left (by omega)]
    · rw [if_neg (by omega), if_neg (by omega)]
  · rfl
/-- the remainder is written -/
theorem qCl0_rem {m' : Nat → Int → Int} {w : qWd} {P : List (Int × Int)} {f : Nat → Nat} {vs : List Int} {hs : List qSC} {rd : qRd} {l3 g g' : List Int} (hC : qCl0 m r w P f vs hs rd l3 g) (hg : qFm m' 141 g') (hf : qFr (qIv 141 144) m m') : qCl0 m' r w P f vs hs rd l3 g' := by
  obtain ⟨h1, h2, ⟨h3, h4, h5⟩, h6, h7, h8, h9, h10, h11, h12, h13⟩ := hC
  have nn : ∀ a, a < 141 ∨ 144 ≤ a → ¬ qIv 141 144 a := by intro a ha; show ¬ (141 ≤ a ∧ a < 144); omega
  exact ⟨h1, h2, ⟨qSc_fr h3 hf (fun a g1 g2 => nn a (by omega)), qSh_fr h4 hf (fun a g1 g2 => nn a (by omega)), h5⟩, h6, qRg_fr h7 hf (fun a g1 g2 => nn a (by omega)), h8, qRw_fr h9 hf (nn _ (by omega)) (nn _ (by omega)), qRw_fr h10 hf (nn _ (by omega)) (nn _ (by omega)), hg, qHc_fr h2 h12 hf (fun a g1 g2 => nn a (by omega)), h13⟩
theorem cLR_drop {w : qWd} (hC : qCp m r w) (hw : qWW w) {i p : Int} : qW m_LR_drop 0 [qK 0, qI i, qI p, none, none] [] (qT0, m, r) (fun x σ => ∃ m' r', σ = (qT0, m', r') ∧ x = qI (fDrop w i p) ∧ qCp m' r' (gDrop w i p) ∧ qFr (qIv 0 176) m m') := by
  obtain ⟨P, f, vs, hs, rd, l3, g, hC0⟩ := hC
  have hwA := hw.1
  have hC1 := hC0
  obtain ⟨h, hHr, hN, hpre, hRg, hrd, hTx, hL3, hG, hHc, hHl, hHs⟩ := hC1
  have hn := hN.1
  have hS := hN.2.1
  have e2 := hn.2.2.1
  have e3 := hn.2.2.2.1
  have e4 := hn.2.2.2.2.1
  have h30 := hn.2.2.2.2.2.1
  have h40 := hS.1
  have hrl := qRs_len w.1
  have h80 := hw.2.2.2.1
  unfold fDrop gDrop
  have h60 := hwA.1.1
  have K : qAt (qRs w.1) i ≠ -9 → 0 ≤ p ∧ p < w.1.1.length → (p ∈ qFr' w.1 i ∨ 100 + p ∈ qFr' w.1 i) → qW m_LR_drop 49 [qK 0, qI i, qI p, qK (qFa (qAt (qRs w.1) i)), none] [] (qT0, m, r) (fun x σ => ∃ m' r', σ = (qT0, m', r') ∧ x = qI (if qAt (qRs w.1) i = -9 ∨ ¬ (0 ≤ p ∧ p < w.1.1.length) then -1 else if ¬ (p ∈ qFr' w.1 i) ∧ ¬ (100 + p ∈ qFr' w.1 i) then -2 else if 40 ≤ qDsh w.1 i p then -3 else (qDsh w.1 i p : Nat)) ∧ qCp m' r' (if qAt (qRs w.1) i = -9 ∨ ¬ (0 ≤ p ∧ p < w.1.1.length) ∨ (¬ (p ∈ qFr' w.1 i) ∧ ¬ (100 + p ∈ qFr' w.1 i)) ∨ 40 ≤ qDsh w.1 i p then w else gAct w (aDrop w.1 i p)) ∧ qFr (qIv 0 176) m m') := by
    intro h9 hp hin
    obtain ⟨q1, q2⟩ := qHas_lt h9
    obtain ⟨i, rfl⟩ : ∃ y : Nat, i = y := ⟨i.toNat, by omega⟩
    have hPh : qPh m 6 P := by have h9 := hRg.1; rw [hrd] at h9; exact h9
    have hws : qWs w.1.1 (qFr' w.1 i) := qWs_gf hwA _
    have hwf : ∀ f ∈ qFr' w.1 i, qPa f < w.1.1.length := fun f hf => (hws.2.2.1 f hf).2.2
    have hsr := qWA_rs hwA i
    have hrg := qFa_rng (qAt (qRs w.1) i)
    have hff : ∀ f ∈ qFr' w.1 i, 0 ≤ f ∧ f < 1000 := qWs_f hwA _
    have hFm : qFm m (qFa (qAt (qRs w.1) i)) (qFr' w.1 i) := qFa_c (s := qAt (qRs w.1) i) hS (by omega)
    have hFk := qFa_k h (qAt (qRs w.1) i)
    have hRP := qRes_pre hpre hwA.1 hwf p
    have hsh := qFs_le w.1.2.1 (qRes w.1.1 p (qFr' w.1 i)) 0
    have hdsh : qDsh w.1 i p = qFs w.1.2.1 (qRes w.1.1 p (qFr' w.1 i)) 0 := rfl
    refine qr_al rfl rfl (w := ?_)
    refine qr_al rfl rfl (w := ?_)
    refine qr_il rfl rfl (w := ?_)
    refine qr_callV rfl (sLR_fillRemainder (d := p) h hFk hrg.2 hff hFm hPh hG) (qrcv1 kd_0) (w := fun _ σ hσ => ?_)
    obtain ⟨m1, rfl, hG1, hf1⟩ := hσ
    rw [hRP] at hG1
    have hC1 := qCl0_rem hC0 hG1 hf1
    have hC2 := hC1
    obtain ⟨-, -, hN1, -, -, -, -, -, -, -, -, -⟩ := hC2
    have hN1 : qNw m1 w.1 vs := hN1
    refine qr_al rfl rfl (w := ?_)
    refine qr_gr rfl kd_0 (hr := (rf_7_4 h)) (w := ?_)
    refine qr_al rfl rfl (w := ?_)
    refine qr_gr rfl kd_0 (hr := (rf_7_5 h)) (w := ?_)
    refine qr_al rfl rfl (w := ?_)
    refine qr_gr rfl kd_0 (hr := (rf_7_6 h)) (w := ?_)
    refine qr_gi rfl kd_144 (w := ?_)
    rw [hN1.1.2.2.2.1]
    refine qr_callP rfl (sShapes_numberFor h hN1.2.1 (kRem h) hG1) (qrcv1 kd_16) (w := ?_)
    refine qr_is4 rfl (w := ?_)
    refine qr_il rfl rfl (w := ?_)
    refine qr_const rfl (w := ?_)
    refine qr_iclt rfl (fun hc => ?_) (fun hc => ?_)
    · refine qr_al rfl rfl (w := ?_)
      refine qr_gr rfl kd_0 (hr := (rf_7_7 h)) (w := ?_)
      refine qr_al rfl rfl (w := ?_)
      refine qr_gr rfl kd_0 (hr := (rf_7_6 h)) (w := ?_)
      refine qr_callV rfl (cKeep hC1) (qrcv1 kd_149) (w := fun _ σ hσ => ?_)
      obtain ⟨m2, r1, f1, hs1, rfl, hK, hf2⟩ := hσ
      have hK0 := hK
      obtain ⟨h, hHr, hN, hpre, hRg, hrd, hTx, hL3, hG, hHc, hHl, hHs⟩ := hK
      have hN : qNw m2 w.1 vs := hN
      have hpre : w.1.1 <+: P := hpre
      have hn := hN.1
      have hS := hN.2.1
      have hFk := qFa_k h (qAt (qRs w.1) i)
      refine qr_al rfl rfl (w := ?_)
      refine qr_il rfl rfl (w := ?_)
      refine qr_al rfl rfl (w := ?_)
      refine qr_gr rfl kd_0 (hr := (rf_7_5 h)) (w := ?_)
      rw [← hdsh]
      refine qr_callV rfl (sLR_learnShape (sh := qDsh w.1 i p) h hn hS (kRem h) hG (by omega) (fun e => by omega)) (qrcv1 kd_0) (w := fun _ σ hσ => ?_)
      obtain ⟨m3, rfl, hn3, hS3, hf3⟩ := hσ
      have hPh3 : qPh m3 6 P := by
        have h9 := hRg.1
        rw [hrd] at h9
        exact qPh_fr h9 hf3 (fun a g1 g2 => by omega)
      have hFm3 : qFm m3 (qFa (qAt (qRs w.1) i)) (qFr' w.1 i) := by
        have h9 := qFa_c (s := qAt (qRs w.1) i) hS3 (by have := qLs_len w.1.2.1 (qDsh w.1 i p) (qRes w.1.1 p (qFr' w.1 i)); omega)
        rw [qLs_gf (by omega)] at h9
        exact h9
      have hVl := qWA_val hwA (i := i) (by omega) (by assumption)
      have hV10 := (hwA.2.2.2.2.2 w.1.2.2.2[i] (List.getElem_mem _)).1
      refine qr_al rfl rfl (w := ?_)
      refine qr_il rfl rfl (w := ?_)
      refine qr_al rfl rfl (w := ?_)
      refine qr_il rfl rfl (w := ?_)
      refine qr_callV rfl (sLR_dropValues (x := i) (d := p) (V := w.1.2.2.2[i].2) h hFk hrg.2 hff (by omega) hVl.1 hV10 hFm3 hPh3 hn3 (hN.2.2 i (by omega))) (qrcv1 kd_0) (w := fun _ σ hσ => ?_)
      obtain ⟨m4, vs4, rfl, hn4, hV4, hO4, hf4⟩ := hσ
      rw [qDl_pre hpre hwA.1 p _ hwf] at hV4
      refine qr_al rfl rfl (w := ?_)
      refine qr_gr rfl kd_0 (hr := (rf_7_6 h)) (w := ?_)
      refine qr_il rfl rfl (w := ?_)
      refine qr_il rfl rfl (w := ?_)
      refine qr_callV rfl (sState_setShapeOf (i := i) (x := (qDsh w.1 i p : Nat)) (kState h) hn4 (by omega)) (qrcv1 kd_144) (w := fun _ σ hσ => ?_)
      obtain ⟨m5, rfl, hn5, hf5⟩ := hσ
      refine qr_il rfl rfl (w := ?_)
      refine qW_ireturn rfl ?_
      have hni : ¬ (¬ (p ∈ qFr' w.1 i) ∧ ¬ (100 + p ∈ qFr' w.1 i)) := fun e => hin.elim e.1 e.2
      rw [← hdsh] at hc
      have ha : (aDrop w.1 i p).2.2.2 = w.1.2.2.2.set i ((qDsh w.1 i p : Nat), qDl w.1.1 p (qFr' w.1 i) w.1.2.2.2[i].2) := by
        unfold aDrop
        rw [Int.toNat_natCast, qGet_at (by omega)]
      have hq : qRs (aDrop w.1 i p) = (qRs w.1).set i (qDsh w.1 i p : Nat) := by
        unfold qRs
        rw [ha, List.map_set]
      have F35 : qFr (fun a => (18 ≤ a ∧ a < 138) ∨ (144 ≤ a ∧ a < 149)) m2 m5 := qFr_tr (qFr_mo hf3 (fun a ha => by omega)) (qFr_tr (qFr_mo hf4 (fun a ha => by have := ha.1; have := ha.2; omega)) (qFr_mo hf5 (fun a ha => by have := ha.1; have := ha.2; omega)))
      refine ⟨m5, r1, rfl, congrArg qI ?_, ?_, qFr_tr (qFr_mo hf1 (fun a ha => ⟨by omega, by have := ha.2; omega⟩)) (qFr_tr (qFr_mo hf2 (fun a ha => ⟨by omega, ha.2⟩)) (qFr_mo F35 (fun a ha => ⟨by omega, by omega⟩)))⟩
      · rw [if_neg (by omega), if_neg hni, if_neg (by omega)]
      · rw [if_neg (fun e => by
          rcases e with e | e | e | e
          · exact absurd e (by assumption)
          · omega
          · exact hni e
          · omega)]
        refine ⟨P, f1, vs4, hs1, rd, l3, _, qCl0_now hK0 (a' := aDrop w.1 i p) ⟨?_, ?_, ?_⟩ hpre F35⟩
        · rw [hq]
          exact hn5
        · exact qSh_fr hS3 (qFr_tr (qFr_mo (P' := fun a => 144 ≤ a ∧ a < 149) hf4 (fun a ha => ⟨by have := ha.1; omega, by have := ha.2; omega⟩)) (qFr_mo (P' := fun a => 144 ≤ a ∧ a < 149) hf5 (fun a ha => ⟨by have := ha.1; omega, by have := ha.2; omega⟩))) (fun a g1 g2 => by omega)
        · rw [ha]
          exact qVr_set hN.2.2 (fun rc hrc => (hwA.2.2.2.2.2 rc hrc).1) (fun _ => hV4) hO4
    · rw [← hdsh] at hc
      refine qr_const rfl (w := ?_)
      refine qW_ireturn rfl ⟨m1, r, rfl, congrArg qI ?_, ?_, qFr_mo hf1 (fun a ha => ⟨by omega, by have := ha.2; omega⟩)⟩
      · rw [if_neg (by omega), if_neg (fun e => hin.elim e.1 e.2), if_pos (by omega)]
      · rw [if_pos (by omega)]
        exact ⟨P, f, vs, hs, rd, l3, _, hC1⟩
  refine qr_al rfl rfl (w := ?_)
  refine qr_gr rfl kd_0 (hr := (rf_7_6 h)) (w := ?_)
  refine qr_il rfl rfl (w := ?_)
  refine qr_callP rfl (sState_has (kState h) hn) (qrcv1 kd_144) (w := ?_)
  refine qr_ifeqB rfl (fun hc => ?_) (fun hc => ?_)
  · simp only [decide_eq_true_eq, decide_eq_false_iff_not, ne_eq, Decidable.not_not] at *
    refine qr_const rfl (w := ?_)
    refine qW_ireturn rfl ⟨m, r, rfl, congrArg qI ?_, ?_, qFr_rf⟩
    · rw [if_pos (by omega)]
    · rw [if_pos (by omega)]
      exact ⟨P, f, vs, hs, rd, l3, g, hC0⟩
  · refine qr_al rfl rfl (w := ?_)
    refine qr_il rfl rfl (w := ?_)
    refine qr_callP rfl (sLR_isPath h hn hS) (qrcv1 kd_0) (w := ?_)
    refine qr_ifneB rfl (fun hcf => ?_) (fun hcf => ?_)
    · refine qr_al rfl rfl (w := ?_)
      refine qr_il rfl rfl (w := ?_)
      refine qr_callP rfl (sLR_formOf h hn hS) (qrcv1 kd_0) (w := ?_)
      refine qr_as3 rfl (w := ?_)
      refine qr_al rfl rfl (w := ?_)
      refine qr_il rfl rfl (w := ?_)
      refine qr_callP rfl (sForm_holds (qFa_k h (qAt (qRs w.1) i)) (qFa_c (s := qAt (qRs w.1) i) hS (by rcases qWA_rs hwA i with h9 | h9 <;> omega))) (qrcv1 (qFa_k h _).1) (w := ?_)
      refine qr_ifneB rfl (fun hcft => ?_) (fun hcft => ?_)
      · exact K (of_decide_eq_true hc) (of_decide_eq_true hcf) (Or.inl (List.contains_iff_mem.mp hcft))
      · refine qr_al rfl rfl (w := ?_)
        refine qr_const rfl (w := ?_)
        refine qr_il rfl rfl (w := ?_)
        refine qr_add rfl (by have h8 := of_decide_eq_true hcf; omega) (w := ?_)
        refine qr_callP rfl (sForm_holds (qFa_k h (qAt (qRs w.1) i)) (qFa_c (s := qAt (qRs w.1) i) hS (by rcases qWA_rs hwA i with h9 | h9 <;> omega))) (qrcv1 (qFa_k h _).1) (w := ?_)
        refine qr_ifneB rfl (fun hcftf => ?_) (fun hcftf => ?_)
        · exact K (of_decide_eq_true hc) (of_decide_eq_true hcf) (Or.inr (List.contains_iff_mem.mp hcftf))
        · simp only [decide_eq_true_eq, decide_eq_false_iff_not, ne_eq, Decidable.not_not, List.contains_iff_mem, Bool.not_eq_true, Bool.eq_false_iff] at *
          refine qr_const rfl (w := ?_)
          refine qW_ireturn rfl ⟨m, r, rfl, congrArg qI ?_, ?_, qFr_rf⟩
          · rw [if_neg (by omega), if_pos ⟨by assumption, by assumption⟩]
          · rw [if_pos (Or.inr (Or.inr (Or.inl ⟨by assumption, by assumption⟩)))]
            exact ⟨P, f, vs, hs, rd, l3, g, hC0⟩
    · simp only [decide_eq_true_eq, decide_eq_false_iff_not, ne_eq, Decidable.not_not] at *
      refine qr_const rfl (w := ?_)
      refine qW_ireturn rfl ⟨m, r, rfl, congrArg qI ?_, ?_, qFr_rf⟩
      · rw [if_pos (by omega)]
      · rw [if_pos (by omega)]
        exact ⟨P, f, vs, hs, rd, l3, g, hC0⟩
