/-! sound -/
variable {m : Nat → Int → Int} {r : Nat → Int → Option Nat} {w : qWd}
theorem so_1 {Q : qA → qM → Prop} : ∀ (k i : Nat) (m : Nat → Int → Int) (r : Nat → Int → Option Nat), qOb m r w → i + k = w.1.2.2.2.length → (∀ (m : Nat → Int → Int) (r : Nat → Int → Option Nat) (x1 : qA), qOb m r w → qW m_Lw_sound 44 [qK 0, x1] [] (qT0, m, r) Q) → qW m_Lw_sound 2 [qK 0, qI i] [] (qT0, m, r) Q := by
  have c1 : fCount w 1 = (w.1.2.2.2.length : Int) := rfl
  have c2 : fCount w 2 = (w.1.1.length : Int) := rfl
  have c3 : fCount w 3 = (w.1.2.1.length : Int) := rfl
  have c8 : fCount w 8 = (w.2.1.length : Int) := rfl
  intro k
  induction k with
  | zero =>
    intro i m r hO hik kk
    refine qr_il rfl rfl (w := ?_)
    refine qr_al rfl rfl (w := ?_)
    refine qr_const rfl (w := ?_)
    refine qr_callX rfl (oCount hO) (qrcv1 kd_0) (w := ?_)
    intro m r ⟨hO, hm⟩
    refine qr_icge rfl (fun hc => ?_) (fun hc => absurd hc (by omega))
    exact kk m r _ hO
  | succ k ih =>
    intro i m r hO hik kk
    obtain ⟨b1, b2, b3, b4, b5, b6⟩ := qOb_bd hO
    by_cases h9 : qAt (qRs w.1) i = -9
    · have e0 : fRecord w i 0 = -1 := fRecord_9 h9
      refine qr_il rfl rfl (w := ?_)
      refine qr_al rfl rfl (w := ?_)
      refine qr_const rfl (w := ?_)
      refine qr_callX rfl (oCount hO) (qrcv1 kd_0) (w := ?_)
      intro m r ⟨hO, hm⟩
      refine qr_icge rfl (fun hc => absurd hc (by omega)) (fun hc => ?_)
      refine qr_al rfl rfl (w := ?_)
      refine qr_il rfl rfl (w := ?_)
      refine qr_const rfl (w := ?_)
      refine qr_callX rfl (oRecord hO) (qrcv1 kd_0) (w := ?_)
      intro m r ⟨hO, hm⟩
      refine qr_iflt rfl (fun hcf => ?_) (fun hcf => absurd hcf (by omega))
      refine qr_inc1 rfl (by omega) (w := ?_)
      refine qr_goto rfl (w := ?_)
      exact ih (i + 1) m r hO (by omega) kk
    · have e0 := fRecord_0 h9
      have hs := qWA_rs hO.2.1.1.1 (i : Int)
      refine qr_il rfl rfl (w := ?_)
      refine qr_al rfl rfl (w := ?_)
      refine qr_const rfl (w := ?_)
      refine qr_callX rfl (oCount hO) (qrcv1 kd_0) (w := ?_)
      intro m r ⟨hO, hm⟩
      refine qr_icge rfl (fun hc => absurd hc (by omega)) (fun hc => ?_)
      refine qr_al rfl rfl (w := ?_)
      refine qr_il rfl rfl (w := ?_)
      refine qr_const rfl (w := ?_)
      refine qr_callX rfl (oRecord hO) (qrcv1 kd_0) (w := ?_)
      intro m r ⟨hO, hm⟩
      refine qr_iflt rfl (fun hcf => absurd hcf (by omega)) (fun hcf => ?_)
      refine qr_al rfl rfl (w := ?_)
      refine qr_il rfl rfl (w := ?_)
      refine qr_callX rfl (pText hO h9) (by rfl) (w := ?_)
      intro m r hO
      refine qr_ifeq rfl (fun hcff => absurd hcff (by omega)) (fun hcff => ?_)
      refine qr_al rfl rfl (w := ?_)
      refine qr_il rfl rfl (w := ?_)
      refine qr_callX rfl (pLike hO h9) (by rfl) (w := ?_)
      intro m r hO
      refine qr_ifne rfl (fun hcfff => ?_) (fun hcfff => absurd hcfff (by omega))
      refine qr_inc1 rfl (by omega) (w := ?_)
      refine qr_goto rfl (w := ?_)
      exact ih (i + 1) m r hO (by omega) kk
theorem so_2 {Q : qA → qM → Prop} : ∀ (k i : Nat) (m : Nat → Int → Int) (r : Nat → Int → Option Nat), qOb m r w → i + k = w.1.1.length → (∀ (m : Nat → Int → Int) (r : Nat → Int → Option Nat) (x1 : qA), qOb m r w → qW m_Lw_sound 71 [qK 0, x1] [] (qT0, m, r) Q) → qW m_Lw_sound 46 [qK 0, qI i] [] (qT0, m, r) Q := by
  have c1 : fCount w 1 = (w.1.2.2.2.length : Int) := rfl
  have c2 : fCount w 2 = (w.1.1.length : Int) := rfl
  have c3 : fCount w 3 = (w.1.2.1.length : Int) := rfl
  have c8 : fCount w 8 = (w.2.1.length : Int) := rfl
  intro k
  induction k with
  | zero =>
    intro i m r hO hik kk
    refine qr_il rfl rfl (w := ?_)
    refine qr_al rfl rfl (w := ?_)
    refine qr_const rfl (w := ?_)
    refine qr_callX rfl (oCount hO) (qrcv1 kd_0) (w := ?_)
    intro m r ⟨hO, hm⟩
    refine qr_icge rfl (fun hc => ?_) (fun hc => absurd hc (by omega))
    exact kk m r _ hO
  | succ k ih =>
    intro i m r hO hik kk
    obtain ⟨b1, b2, b3, b4, b5, b6⟩ := qOb_bd hO
    refine qr_il rfl rfl (w := ?_)
    refine qr_al rfl rfl (w := ?_)
    refine qr_const rfl (w := ?_)
    refine qr_callX rfl (oCount hO) (qrcv1 kd_0) (w := ?_)
    intro m r ⟨hO, hm⟩
    refine qr_icge rfl (fun hc => absurd hc (by omega)) (fun hc => ?_)
    refine qr_al rfl rfl (w := ?_)
    refine qr_il rfl rfl (w := ?_)
    refine qr_callX rfl (pPaths hO (p := i) (by omega)) (by rfl) (w := ?_)
    intro m r hO
    refine qr_ifne rfl (fun hcf => ?_) (fun hcf => absurd hcf (by omega))
    refine qr_inc1 rfl (by omega) (w := ?_)
    refine qr_goto rfl (w := ?_)
    exact ih (i + 1) m r hO (by omega) kk
theorem pSound (hO : qOb m r w) : qW m_Lw_sound 0 [qK 0, none] [] (qT0, m, r) (qPo (qI 1) w) := by
  refine qr_const rfl (w := ?_)
  refine qr_is1 rfl (w := ?_)
  refine so_1 w.1.2.2.2.length 0 m r hO (by omega) (fun m r x1 hO => ?_)
  refine qr_const rfl (w := ?_)
  refine qr_is1 rfl (w := ?_)
  refine so_2 w.1.1.length 0 m r hO (by omega) (fun m r x1 hO => ?_)
  refine qr_al rfl rfl (w := ?_)
  refine qr_callX rfl (pShapes hO) (by rfl) (w := ?_)
  intro m r hO
  refine qW_zreturn rfl (by first | exact Or.inl rfl | exact Or.inr rfl | (simp only [qbi]; split <;> simp)) ?_
  exact ⟨m, r, rfl, rfl, hO⟩
