/-! shapes: records, sizes, columns, the best bound -/
variable {m : Nat → Int → Int} {r : Nat → Int → Option Nat} {w : qWd}
/-- the first leaf -/
def fLf : List Int → Int
  | [] => -1
  | f :: t => if f < 100 then f else fLf t
theorem fLf_ok : ∀ fs : List Int, 0 < qLv fs → fLf fs < 100 ∧ fLf fs ∈ fs ∧ qLp fs (fLf fs) 0 = 0 := by
  intro fs
  induction fs with
  | nil => intro h; simp [qLv] at h
  | cons f t ih =>
    intro h
    by_cases e : f < 100
    · have e3 : fLf (f :: t) = f := if_pos e
      rw [e3]
      exact ⟨e, List.mem_cons_self, if_pos rfl⟩
    · have e3 : fLf (f :: t) = fLf t := if_neg e
      rw [e3]
      simp only [qLv] at h
      rw [if_neg e] at h
      obtain ⟨h1, h2, h3⟩ := ih (by omega)
      refine ⟨h1, List.mem_cons_of_mem _ h2, ?_⟩
      show (if f = fLf t then 0 else qLp t (fLf t) (0 + if f < 100 then 1 else 0)) = 0
      rw [if_neg (by omega), if_neg e, Int.add_zero]
      exact h3
theorem lo_loop {s : Int} (hs : 0 ≤ s ∧ s < w.1.2.1.length) : ∀ (k i : Nat) (m : Nat → Int → Int) (r : Nat → Int → Option Nat) (x5 : qA), qOb m r w → i + k = (qGf w.1.2.1 s).length → qW m_Lw_leafOf 5 [qK 0, qI s, qI 0, qI 0, qI i, x5] [] (qT0, m, r) (qPo (qI (fLf ((qGf w.1.2.1 s).drop i))) w) := by
  have d2 := fShape_2 hs
  have d3 := fShape_3 hs
  have d4 := qLv_rng (qGf w.1.2.1 s)
  intro k
  induction k with
  | zero =>
    intro i m r x5 hO hik
    have d5 := (qWs_gf hO.2.1.1.1 s).1
    rw [List.drop_eq_nil_of_le (by omega)]
    refine qr_il rfl rfl (w := ?_)
    refine qr_al rfl rfl (w := ?_)
    refine qr_il rfl rfl (w := ?_)
    refine qr_const rfl (w := ?_)
    refine qr_callX rfl (oShape hO) (qrcv1 kd_0) (w := ?_)
    intro m r ⟨hO, hm⟩
    refine qr_al rfl rfl (w := ?_)
    refine qr_il rfl rfl (w := ?_)
    refine qr_const rfl (w := ?_)
    refine qr_callX rfl (oShape hO) (qrcv1 kd_0) (w := ?_)
    intro m r ⟨hO, hm⟩
    refine qr_add rfl (by omega) (w := ?_)
    refine qr_icge rfl (fun hc => ?_) (fun hc => absurd hc (by omega))
    refine qr_const rfl (w := ?_)
    refine qW_ireturn rfl ?_
    exact ⟨m, r, rfl, rfl, hO⟩
  | succ k ih =>
    intro i m r x5 hO hik
    have d5 := (qWs_gf hO.2.1.1.1 s).1
    have ef : fField w s i = qAt (qGf w.1.2.1 s) i := by
      unfold fField
      rw [if_neg (by omega)]
    rw [qAt_drop (by omega)]
    simp only [fLf]
    by_cases e : qAt (qGf w.1.2.1 s) i < 100
    · rw [if_pos e]
      refine qr_il rfl rfl (w := ?_)
      refine qr_al rfl rfl (w := ?_)
      refine qr_il rfl rfl (w := ?_)
      refine qr_const rfl (w := ?_)
      refine qr_callX rfl (oShape hO) (qrcv1 kd_0) (w := ?_)
      intro m r ⟨hO, hm⟩
      refine qr_al rfl rfl (w := ?_)
      refine qr_il rfl rfl (w := ?_)
      refine qr_const rfl (w := ?_)
      refine qr_callX rfl (oShape hO) (qrcv1 kd_0) (w := ?_)
      intro m r ⟨hO, hm⟩
      refine qr_add rfl (by omega) (w := ?_)
      refine qr_icge rfl (fun hc => absurd hc (by omega)) (fun hc => ?_)
      refine qr_al rfl rfl (w := ?_)
      refine qr_il rfl rfl (w := ?_)
      refine qr_il rfl rfl (w := ?_)
      refine qr_callX rfl (oField hO) (qrcv1 kd_0) (w := ?_)
      rw [ef]
      intro m r ⟨hO, hm⟩
      refine qr_is5 rfl (w := ?_)
      refine qr_il rfl rfl (w := ?_)
      refine qr_const rfl (w := ?_)
      refine qr_icge rfl (fun hcf => absurd hcf (by omega)) (fun hcf => ?_)
      refine qr_il rfl rfl (w := ?_)
      refine qr_ifne rfl (fun hcff => absurd hcff (by omega)) (fun hcff => ?_)
      refine qr_il rfl rfl (w := ?_)
      refine qW_ireturn rfl ?_
      exact ⟨m, r, rfl, rfl, hO⟩
    · rw [if_neg e]
      refine qr_il rfl rfl (w := ?_)
      refine qr_al rfl rfl (w := ?_)
      refine qr_il rfl rfl (w := ?_)
      refine qr_const rfl (w := ?_)
      refine qr_callX rfl (oShape hO) (qrcv1 kd_0) (w := ?_)
      intro m r ⟨hO, hm⟩
      refine qr_al rfl rfl (w := ?_)
      refine qr_il rfl rfl (w := ?_)
      refine qr_const rfl (w := ?_)
      refine qr_callX rfl (oShape hO) (qrcv1 kd_0) (w := ?_)
      intro m r ⟨hO, hm⟩
      refine qr_add rfl (by omega) (w := ?_)
      refine qr_icge rfl (fun hc => absurd hc (by omega)) (fun hc => ?_)
      refine qr_al rfl rfl (w := ?_)
      refine qr_il rfl rfl (w := ?_)
      refine qr_il rfl rfl (w := ?_)
      refine qr_callX rfl (oField hO) (qrcv1 kd_0) (w := ?_)
      rw [ef]
      intro m r ⟨hO, hm⟩
      refine qr_is5 rfl (w := ?_)
      refine qr_il rfl rfl (w := ?_)
      refine qr_const rfl (w := ?_)
      refine qr_icge rfl (fun hcf => ?_) (fun hcf => absurd hcf (by omega))
      refine qr_il rfl rfl (w := ?_)
      refine qr_il rfl rfl (w := ?_)
      refine qr_const rfl (w := ?_)
      refine qr_icge rfl (fun hcft => ?_) (fun hcft => absurd hcft (by omega))
      refine qr_const rfl (w := ?_)
      refine qr_sub rfl (by omega) (w := ?_)
      refine qr_is3 rfl (w := ?_)
      refine qr_inc4 rfl (by omega) (w := ?_)
      refine qr_goto rfl (w := ?_)
      exact ih (i + 1) m r _ hO (by omega)
theorem pLeafOf (hO : qOb m r w) {s : Int} (hs : 0 ≤ s ∧ s < w.1.2.1.length) : qW m_Lw_leafOf 0 [qK 0, qI s, qI 0, none, none, none] [] (qT0, m, r) (qPo (qI (fLf (qGf w.1.2.1 s))) w) := by
  refine qr_il rfl rfl (w := ?_)
  refine qr_is3 rfl (w := ?_)
  refine qr_const rfl (w := ?_)
  refine qr_is4 rfl (w := ?_)
  exact lo_loop hs (qGf w.1.2.1 s).length 0 m r _ hO (Nat.zero_add _)
/-- the first record of a shape -/
def fFst : List Int → Int → Nat → Int
  | [], _, _ => -1
  | f :: t, s, i => if f = s then i else fFst t s (i + 1)
theorem fFst_nt : ∀ (l : List Int) (s : Int) (i : Nat), 0 < qCt l s → fFst l s i = qNt l s 0 i ∧ (i : Int) ≤ fFst l s i ∧ fFst l s i < i + l.length := by
  intro l
  induction l with
  | nil => intro s i h; simp [qCt] at h
  | cons f t ih =>
    intro s i h
    simp only [qCt, fFst, qNt, List.length_cons] at h ⊢
    by_cases e : f = s
    · rw [if_pos e, if_pos e, if_pos trivial]
      omega
    · rw [if_neg e] at h ⊢
      rw [if_neg e]
      have := ih s (i + 1) (by omega)
      refine ⟨this.1, by omega, by omega⟩
theorem qNt_at : ∀ (l : List Int) (s : Int) (a : Nat), 0 < qCt l s → ∃ j : Nat, qNt l s 0 a = a + j ∧ j < l.length ∧ qAt l j = s := by
  intro l
  induction l with
  | nil => intro s i h; simp [qCt] at h
  | cons f t ih =>
    intro s a h
    simp only [qCt, qNt] at h ⊢
    by_cases e : f = s
    · rw [if_pos e, if_pos trivial]
      refine ⟨0, by omega, by simp, ?_⟩
      rw [qAt_lt (by simp)]
      exact e
    · rw [if_neg e] at h ⊢
      obtain ⟨j, h1, h2, h3⟩ := ih s (a + 1) (by omega)
      refine ⟨j + 1, ?_, by simp; omega, ?_⟩
      · have e9 : ((a : Int) + 1) = ((a + 1 : Nat) : Int) := rfl
        rw [e9, h1]
        omega
      · rw [qAt_lt (by simp; omega)]
        rw [qAt_lt h2] at h3
        simpa using h3
theorem qNt_end : ∀ (l : List Int) (s n a : Int), qCt l s ≤ n → qNt l s n a = -9 := by
  intro l
  induction l with
  | nil => intro s n a _; rfl
  | cons f t ih =>
    intro s n a h
    have h0 := (qCt_ge t s).1
    simp only [qCt, qNt] at h ⊢
    by_cases e : f = s
    · rw [if_pos e] at h ⊢
      rw [if_neg (by omega)]
      exact ih s _ _ (by omega)
    · rw [if_neg e] at h ⊢
      exact ih s _ _ (by omega)
theorem qBb_min (g : Int → Int) : ∀ (k : Nat) (b c : Int), 1 ≤ c → c < b → (∀ j : Int, 1 ≤ j → j < b → g c ≤ g j ∧ (j < c → g c < g j)) → 1 ≤ qBb g k b c ∧ qBb g k b c < b + k ∧ ∀ j : Int, 1 ≤ j → j < b + k → g (qBb g k b c) ≤ g j ∧ (j < qBb g k b c → g (qBb g k b c) < g j) := by
  intro k
  induction k with
  | zero =>
    intro b c h1 h2 h3
    simp only [qBb]
    exact ⟨h1, by omega, fun j g1 g2 => h3 j g1 (by omega)⟩
  | succ k ih =>
    intro b c h1 h2 h3
    simp only [qBb]
    have e : b + ((k + 1 : Nat) : Int) = (b + 1) + k := by omega
    rw [e]
    by_cases hb : g b < g c
    · rw [if_pos hb]
      refine ih (b + 1) b (by omega) (by omega) (fun j g1 g2 => ?_)
      by_cases hj : j < b
      · have := h3 j g1 hj
        exact ⟨by omega, fun _ => by omega⟩
      · have : j = b := by omega
        subst this
        exact ⟨Int.le_refl _, fun h => by omega⟩
    · rw [if_neg hb]
      refine ih (b + 1) c (by omega) (by omega) (fun j g1 g2 => ?_)
      by_cases hj : j < b
      · exact h3 j g1 hj
      · have : j = b := by omega
        subst this
        exact ⟨by omega, fun h => by omega⟩
theorem fRecord_is (hO : qOb m r w) {i : Nat} {s : Int} (hs : 0 ≤ s) : fRecord w i 0 = s ↔ qAt (qRs w.1) i = s := by
  by_cases h9 : qAt (qRs w.1) i = -9
  · rw [fRecord_9 h9, h9]
    omega
  · rw [fRecord_0 h9]
theorem sh_in {Q : qA → qM → Prop} {bd a2 a3 a4 a5 : Int} {s : Nat} {x10 x11 : qA} : ∀ (k i : Nat) (c f : Int) (m : Nat → Int → Int) (r : Nat → Int → Option Nat), qOb m r w → i + k = w.1.2.2.2.length → 0 ≤ c → c ≤ i → -1 ≤ f → (∀ (m : Nat → Int → Int) (r : Nat → Int → Option Nat) (x9 : qA) (c' f' : Int), qOb m r w → c' = c + qCt ((qRs w.1).drop i) s → f' = (if 0 ≤ f then f else fFst ((qRs w.1).drop i) s i) → qW m_Lw_shapes 103 [qK 0, qI bd, qI a2, qI a3, qI a4, qI a5, qI s, qI c', qI f', x9, x10, x11] [] (qT0, m, r) Q) → qW m_Lw_shapes 39 [qK 0, qI bd, qI a2, qI a3, qI a4, qI a5, qI s, qI c, qI f, qI i, x10, x11] [] (qT0, m, r) Q := by
  have c1 : fCount w 1 = (w.1.2.2.2.length : Int) := rfl
  have c2 : fCount w 2 = (w.1.1.length : Int) := rfl
  have c3 : fCount w 3 = (w.1.2.1.length : Int) := rfl
  have c8 : fCount w 8 = (w.2.1.length : Int) := rfl
  have hl := qRs_len w.1
  intro k
  induction k with
  | zero =>
    intro i c f m r hO hik g1 g2 g3 kk
    rw [List.drop_eq_nil_of_le (by omega)] at kk
    refine qr_il rfl rfl (w := ?_)
    refine qr_al rfl rfl (w := ?_)
    refine qr_const rfl (w := ?_)
    refine qr_callX rfl (oCount hO) (qrcv1 kd_0) (w := ?_)
    intro m r ⟨hO, hm⟩
    refine qr_icge rfl (fun hc => ?_) (fun hc => absurd hc (by omega))
    exact kk m r _ _ _ hO (by simp [qCt]) (by simp only [fFst]; split <;> omega)
  | succ k ih =>
    intro i c f m r hO hik g1 g2 g3 kk
    obtain ⟨b1, b2, b3, b4, b5, b6⟩ := qOb_bd hO
    have hri := fRecord_is hO (i := i) (s := s) (by omega)
    rw [qAt_drop (by omega)] at kk
    simp only [qCt, fFst] at kk
    by_cases e : qAt (qRs w.1) i = s
    · have e1 := hri.mpr e
      rw [if_pos e, if_pos e] at kk
      by_cases hf : 0 ≤ f
      · refine qr_il rfl rfl (w := ?_)
        refine qr_al rfl rfl (w := ?_)
        refine qr_const rfl (w := ?_)
        refine qr_callX rfl (oCount hO) (qrcv1 kd_0) (w := ?_)
        intro m r ⟨hO, hm⟩
        refine qr_icge rfl (fun hc => absurd hc (by omega)) (fun hc => ?_)
        refine qr_al rfl rfl (w := ?_)
        refine qr_il rfl rfl (w := ?_)
        refine qr_const rfl (w := ?_)
        refine qr_callX rfl (oRecord hO) (qrcv1 kd_0) (w := ?_)
        intro m r ⟨hO, hm⟩
        refine qr_il rfl rfl (w := ?_)
        refine qr_icne rfl (fun hcf => absurd hcf (by omega)) (fun hcf => ?_)
        refine qr_il rfl rfl (w := ?_)
        refine qr_ifge rfl (fun hcff => ?_) (fun hcff => absurd hcff (by omega))
        refine qr_il rfl rfl (w := ?_)
        refine qr_is8 rfl (w := ?_)
        refine qr_il rfl rfl (w := ?_)
        refine qr_al rfl rfl (w := ?_)
        refine qr_il rfl rfl (w := ?_)
        refine qr_const rfl (w := ?_)
        refine qr_callX rfl (oRecord hO) (qrcv1 kd_0) (w := ?_)
        intro m r ⟨hO, hm⟩
        refine qr_il rfl rfl (w := ?_)
        refine qr_icne rfl (fun hcfft => absurd hcfft (by omega)) (fun hcfft => ?_)
        refine qr_const rfl (w := ?_)
        refine qr_goto rfl (w := ?_)
        refine qr_add rfl (by omega) (w := ?_)
        refine qr_is7 rfl (w := ?_)
        refine qr_inc9 rfl (by omega) (w := ?_)
        refine qr_goto rfl (w := ?_)
        exact ih (i + 1) _ _ m r hO (by omega) (by omega) (by omega) (by omega) (fun m r x9 c2 f2 hO q1 q2 => kk m r x9 c2 f2 hO (by omega) (by rw [if_pos hf] at q2 ⊢; exact q2))
      · refine qr_il rfl rfl (w := ?_)
        refine qr_al rfl rfl (w := ?_)
        refine qr_const rfl (w := ?_)
        refine qr_callX rfl (oCount hO) (qrcv1 kd_0) (w := ?_)
        intro m r ⟨hO, hm⟩
        refine qr_icge rfl (fun hc => absurd hc (by omega)) (fun hc => ?_)
        refine qr_al rfl rfl (w := ?_)
        refine qr_il rfl rfl (w := ?_)
        refine qr_const rfl (w := ?_)
        refine qr_callX rfl (oRecord hO) (qrcv1 kd_0) (w := ?_)
        intro m r ⟨hO, hm⟩
        refine qr_il rfl rfl (w := ?_)
        refine qr_icne rfl (fun hcf => absurd hcf (by omega)) (fun hcf => ?_)
        refine qr_il rfl rfl (w := ?_)
        refine qr_ifge rfl (fun hcff => absurd hcff (by omega)) (fun hcff => ?_)
        refine qr_il rfl rfl (w := ?_)
        refine qr_goto rfl (w := ?_)
        refine qr_is8 rfl (w := ?_)
        refine qr_il rfl rfl (w := ?_)
        refine qr_al rfl rfl (w := ?_)
        refine qr_il rfl rfl (w := ?_)
        refine qr_const rfl (w := ?_)
        refine qr_callX rfl (oRecord hO) (qrcv1 kd_0) (w := ?_)
        intro m r ⟨hO, hm⟩
        refine qr_il rfl rfl (w := ?_)
        refine qr_icne rfl (fun hcfff => absurd hcfff (by omega)) (fun hcfff => ?_)
        refine qr_const rfl (w := ?_)
        refine qr_goto rfl (w := ?_)
        refine qr_add rfl (by omega) (w := ?_)
        refine qr_is7 rfl (w := ?_)
        refine qr_inc9 rfl (by omega) (w := ?_)
        refine qr_goto rfl (w := ?_)
        exact ih (i + 1) _ _ m r hO (by omega) (by omega) (by omega) (by omega) (fun m r x9 c2 f2 hO q1 q2 => kk m r x9 c2 f2 hO (by omega) (by rw [if_neg hf]; rw [if_pos (by omega)] at q2; exact q2))
    · have e1 : fRecord w i 0 ≠ s := fun h => e (hri.mp h)
      rw [if_neg e, if_neg e] at kk
      refine qr_il rfl rfl (w := ?_)
      refine qr_al rfl rfl (w := ?_)
      refine qr_const rfl (w := ?_)
      refine qr_callX rfl (oCount hO) (qrcv1 kd_0) (w := ?_)
      intro m r ⟨hO, hm⟩
      refine qr_icge rfl (fun hc => absurd hc (by omega)) (fun hc => ?_)
      refine qr_al rfl rfl (w := ?_)
      refine qr_il rfl rfl (w := ?_)
      refine qr_const rfl (w := ?_)
      refine qr_callX rfl (oRecord hO) (qrcv1 kd_0) (w := ?_)
      intro m r ⟨hO, hm⟩
      refine qr_il rfl rfl (w := ?_)
      refine qr_icne rfl (fun hcf => ?_) (fun hcf => absurd hcf (by omega))
      refine qr_il rfl rfl (w := ?_)
      refine qr_is8 rfl (w := ?_)
      refine qr_il rfl rfl (w := ?_)
      refine qr_al rfl rfl (w := ?_)
      refine qr_il rfl rfl (w := ?_)
      refine qr_const rfl (w := ?_)
      refine qr_callX rfl (oRecord hO) (qrcv1 kd_0) (w := ?_)
      intro m r ⟨hO, hm⟩
      refine qr_il rfl rfl (w := ?_)
      refine qr_icne rfl (fun hcft => ?_) (fun hcft => absurd hcft (by omega))
      refine qr_const rfl (w := ?_)
      refine qr_add rfl (by omega) (w := ?_)
      refine qr_is7 rfl (w := ?_)
      refine qr_inc9 rfl (by omega) (w := ?_)
      refine qr_goto rfl (w := ?_)
      exact ih (i + 1) _ _ m r hO (by omega) (by omega) (by omega) (by omega) (fun m r x9 c2 f2 hO q1 q2 => kk m r x9 c2 f2 hO (by omega) (by exact q2))
theorem sh_out {Q : qA → qM → Prop} {bd : Int} (hbd : bd = w.1.2.2.1) : ∀ (k i : Nat) (a2 a3 a4 a5 : Int) (m : Nat → Int → Int) (r : Nat → Int → Option Nat) (x7 x8 x9 x10 x11 : qA), qOb m r w → i + k = w.1.2.1.length → (0 ≤ a2 ∧ a2 ≤ 30 * i) → (0 ≤ a3 ∧ a3 ≤ i) → (0 ≤ a4 ∧ a4 ≤ 30 * i) → (0 ≤ a5 ∧ a5 ≤ 3000 * i) → (∀ (m : Nat → Int → Int) (r : Nat → Int → Option Nat) (x7 x8 x9 x10 x11 : qA) (c2 c3 c4 c5 : Int), qOb m r w → c2 = a2 + qSm k i (fun s => qCt (qRs w.1) s) → c3 = a3 + qSm k i (fun s => if w.1.2.2.1 ≤ qCt (qRs w.1) s then 1 else 0) → c4 = a4 + qSm k i (fun s => if w.1.2.2.1 ≤ qCt (qRs w.1) s then 0 else qCt (qRs w.1) s) → c5 = a5 + qSm k i (fun s => qCt (qRs w.1) s + (if w.1.2.2.1 ≤ qCt (qRs w.1) s then 1 + (qGf w.1.2.1 s).length + qCt (qRs w.1) s * qLv (qGf w.1.2.1 s) else qCt (qRs w.1) s * (2 * qLv (qGf w.1.2.1 s) + ((qGf w.1.2.1 s).length - qLv (qGf w.1.2.1 s))))) → qW m_Lw_shapes 324 [qK 0, qI bd, qI c2, qI c3, qI c4, qI c5, qI (w.1.2.1.length : Nat), x7, x8, x9, x10, x11] [] (qT0, m, r) Q) → qW m_Lw_shapes 20 [qK 0, qI bd, qI a2, qI a3, qI a4, qI a5, qI i, x7, x8, x9, x10, x11] [] (qT0, m, r) Q := by
  have c1 : fCount w 1 = (w.1.2.2.2.length : Int) := rfl
  have c2 : fCount w 2 = (w.1.1.length : Int) := rfl
  have c3 : fCount w 3 = (w.1.2.1.length : Int) := rfl
  have c8 : fCount w 8 = (w.2.1.length : Int) := rfl
  have hl := qRs_len w.1
  intro k
  induction k with
  | zero =>
    intro i a2 a3 a4 a5 m r x7 x8 x9 x10 x11 hO hik g2 g3 g4 g5 kk
    have hi0 : i = w.1.2.1.length := by omega
    subst hi0
    refine qr_il rfl rfl (w := ?_)
    refine qr_al rfl rfl (w := ?_)
    refine qr_const rfl (w := ?_)
    refine qr_callX rfl (oCount hO) (qrcv1 kd_0) (w := ?_)
    intro m r ⟨hO, hm⟩
    refine qr_icge rfl (fun hc => ?_) (fun hc => absurd hc (by omega))
    exact kk m r x7 x8 x9 x10 x11 _ _ _ _ hO (by simp [qSm]) (by simp [qSm]) (by simp [qSm]) (by simp [qSm])
  | succ k ih =>
    intro i a2 a3 a4 a5 m r x7 x8 x9 x10 x11 hO hik g2 g3 g4 g5 kk
    obtain ⟨b1, b2, b3, b4, b5, b6⟩ := qOb_bd hO
    simp only [qSm] at kk
    have hii : (0 : Int) ≤ i ∧ (i : Int) < w.1.2.1.length := by omega
    have d0 := fShape_0 hii
    have d1 := fShape_1 hii
    have d2 := fShape_2 hii
    have d3 := fShape_3 hii
    have d4 := qLv_rng (qGf w.1.2.1 i)
    have d5 := qWs_gf hO.2.1.1.1 (i : Int)
    have d6 := d5.2.1
    have d7 := d5.1
    have hcr := qCt_ge (qRs w.1) i
    have hm1 := qmulb (a := qCt (qRs w.1) i) (b := qLv (qGf w.1.2.1 i)) (X := 30) (Y := 10) (by omega) (by omega) (by omega) (by omega)
    have hm2 := qmulb (a := qCt (qRs w.1) i) (b := 2 * qLv (qGf w.1.2.1 i) + ((qGf w.1.2.1 i).length - qLv (qGf w.1.2.1 i))) (X := 30) (Y := 60) (by omega) (by omega) (by omega) (by omega)
    have k0 : fColumn w i 0 0 = if qCt (qRs w.1) i < w.1.2.2.1 then -2 else if qNt (qRs w.1) i 0 0 = -9 ∨ qLv (qGf w.1.2.1 i) ≤ 0 then -9 else qVv w.1 (qNt (qRs w.1) i 0 0) 0 := if_neg (by omega)
    have k1 : fColumn w i (qLv (qGf w.1.2.1 i)) 0 = if qCt (qRs w.1) i < w.1.2.2.1 then -2 else if qNt (qRs w.1) i 0 0 = -9 ∨ qLv (qGf w.1.2.1 i) ≤ qLv (qGf w.1.2.1 i) then -9 else qVv w.1 (qNt (qRs w.1) i 0 0) (qLv (qGf w.1.2.1 i)) := if_neg (by omega)
    have k2 : fColumn w i 0 (qCt (qRs w.1) i) = if qCt (qRs w.1) i < w.1.2.2.1 then -2 else if qNt (qRs w.1) i (qCt (qRs w.1) i) 0 = -9 ∨ qLv (qGf w.1.2.1 i) ≤ 0 then -9 else qVv w.1 (qNt (qRs w.1) i (qCt (qRs w.1) i) 0) 0 := if_neg (by omega)
    rw [if_pos (c := _ ∨ qLv (qGf w.1.2.1 i) ≤ qLv (qGf w.1.2.1 i)) (Or.inr (Int.le_refl _))] at k1
    rw [if_pos (c := _ ∨ qLv (qGf w.1.2.1 i) ≤ 0) (Or.inl (qNt_end _ _ _ _ (Int.le_refl _)))] at k2
    refine qr_il rfl rfl (w := ?_)
    refine qr_al rfl rfl (w := ?_)
    refine qr_const rfl (w := ?_)
    refine qr_callX rfl (oCount hO) (qrcv1 kd_0) (w := ?_)
    intro m r ⟨hO, hm⟩
    refine qr_icge rfl (fun hc => absurd hc (by omega)) (fun hc => ?_)
    refine qr_const rfl (w := ?_)
    refine qr_is7 rfl (w := ?_)
    refine qr_const rfl (w := ?_)
    refine qr_is8 rfl (w := ?_)
    refine qr_const rfl (w := ?_)
    refine qr_is9 rfl (w := ?_)
    refine sh_in w.1.2.2.2.length 0 0 (-1) m r hO (by omega) (by omega) (by omega) (by omega) (fun m r x9 h' f' hO e1 e2 => ?_)
    rw [List.drop_zero] at e1 e2
    rw [Int.zero_add] at e1
    rw [if_neg (by omega)] at e2
    subst e1
    by_cases hc : w.1.2.2.1 ≤ qCt (qRs w.1) i
    · rw [if_pos hc] at d1
      rw [if_pos hc, if_pos hc, if_pos hc] at kk
      rw [if_neg (by omega)] at k0 k1 k2
      by_cases hv : qLv (qGf w.1.2.1 i) ≤ 0
      · rw [if_pos (Or.inr hv)] at k0
        refine qr_al rfl rfl (w := ?_)
        refine qr_il rfl rfl (w := ?_)
        refine qr_const rfl (w := ?_)
        refine qr_callX rfl (oShape hO) (qrcv1 kd_0) (w := ?_)
        rw [d2]
        intro m r ⟨hO, hm⟩
        refine qr_is9 rfl (w := ?_)
        refine qr_al rfl rfl (w := ?_)
        refine qr_il rfl rfl (w := ?_)
        refine qr_const rfl (w := ?_)
        refine qr_callX rfl (oShape hO) (qrcv1 kd_0) (w := ?_)
        rw [d3]
        intro m r ⟨hO, hm⟩
        refine qr_is10 rfl (w := ?_)
        refine qr_il rfl rfl (w := ?_)
        refine qr_il rfl rfl (w := ?_)
        refine qr_iclt rfl (fun hc => absurd hc (by omega)) (fun hc => ?_)
        refine qr_const rfl (w := ?_)
        refine qr_goto rfl (w := ?_)
        refine qr_is11 rfl (w := ?_)
        refine qr_il rfl rfl (w := ?_)
        refine qr_il rfl rfl (w := ?_)
        refine qr_add rfl (by omega) (w := ?_)
        refine qr_is2 rfl (w := ?_)
        refine qr_il rfl rfl (w := ?_)
        refine qr_il rfl rfl (w := ?_)
        refine qr_ifeq rfl (fun hcf => absurd hcf (by omega)) (fun hcf => ?_)
        refine qr_const rfl (w := ?_)
        refine qr_goto rfl (w := ?_)
        refine qr_add rfl (by omega) (w := ?_)
        refine qr_is3 rfl (w := ?_)
        refine qr_il rfl rfl (w := ?_)
        refine qr_il rfl rfl (w := ?_)
        refine qr_ifeq rfl (fun hcff => absurd hcff (by omega)) (fun hcff => ?_)
        refine qr_const rfl (w := ?_)
        refine qr_goto rfl (w := ?_)
        refine qr_add rfl (by omega) (w := ?_)
        refine qr_is4 rfl (w := ?_)
        refine qr_il rfl rfl (w := ?_)
        refine qr_il rfl rfl (w := ?_)
        refine qr_il rfl rfl (w := ?_)
        refine qr_ifeq rfl (fun hcfff => absurd hcfff (by omega)) (fun hcfff => ?_)
        refine qr_const rfl (w := ?_)
        refine qr_il rfl rfl (w := ?_)
        refine qr_add rfl (by omega) (w := ?_)
        refine qr_il rfl rfl (w := ?_)
        refine qr_add rfl (by omega) (w := ?_)
        refine qr_il rfl rfl (w := ?_)
        refine qr_il rfl rfl (w := ?_)
        refine qr_mul rfl (by omega) (w := ?_)
        refine qr_add rfl (by omega) (w := ?_)
        refine qr_goto rfl (w := ?_)
        refine qr_add rfl (by omega) (w := ?_)
        refine qr_add rfl (by omega) (w := ?_)
        refine qr_is5 rfl (w := ?_)
        refine qr_al rfl rfl (w := ?_)
        refine qr_il rfl rfl (w := ?_)
        refine qr_const rfl (w := ?_)
        refine qr_callX rfl (oShape hO) (qrcv1 kd_0) (w := ?_)
        intro m r ⟨hO, hm⟩
        refine qr_il rfl rfl (w := ?_)
        refine qr_icne rfl (fun hcffff => absurd hcffff (by omega)) (fun hcffff => ?_)
        refine qr_al rfl rfl (w := ?_)
        refine qr_il rfl rfl (w := ?_)
        refine qr_const rfl (w := ?_)
        refine qr_callX rfl (oShape hO) (qrcv1 kd_0) (w := ?_)
        intro m r ⟨hO, hm⟩
        refine qr_il rfl rfl (w := ?_)
        refine qr_ifeq rfl (fun hcfffff => absurd hcfffff (by omega)) (fun hcfffff => ?_)
        refine qr_const rfl (w := ?_)
        refine qr_goto rfl (w := ?_)
        refine qr_icne rfl (fun hcffffff => absurd hcffffff (by omega)) (fun hcffffff => ?_)
        refine qr_al rfl rfl (w := ?_)
        refine qr_il rfl rfl (w := ?_)
        refine qr_const rfl (w := ?_)
        refine qr_const rfl (w := ?_)
        refine qr_callX rfl (oColumn hO) (qrcv1 kd_0) (w := ?_)
        intro m r ⟨hO, hm⟩
        refine qr_il rfl rfl (w := ?_)
        refine qr_ifne rfl (fun hcfffffff => ?_) (fun hcfffffff => absurd hcfffffff (by omega))
        refine qr_il rfl rfl (w := ?_)
        refine qr_ifne rfl (fun hcffffffft => absurd hcffffffft (by omega)) (fun hcffffffft => ?_)
        refine qr_const rfl (w := ?_)
        refine qr_goto rfl (w := ?_)
        refine qr_icne rfl (fun hcffffffftf => absurd hcffffffftf (by omega)) (fun hcffffffftf => ?_)
        refine qr_il rfl rfl (w := ?_)
        refine qr_ifeq rfl (fun hcffffffftff => absurd hcffffffftff (by omega)) (fun hcffffffftff => ?_)
        refine qr_al rfl rfl (w := ?_)
        refine qr_il rfl rfl (w := ?_)
        refine qr_il rfl rfl (w := ?_)
        refine qr_const rfl (w := ?_)
        refine qr_callX rfl (oColumn hO) (qrcv1 kd_0) (w := ?_)
        intro m r ⟨hO, hm⟩
        refine qr_const rfl (w := ?_)
        refine qr_icne rfl (fun hcffffffftfff => absurd hcffffffftfff (by omega)) (fun hcffffffftfff => ?_)
        refine qr_al rfl rfl (w := ?_)
        refine qr_il rfl rfl (w := ?_)
        refine qr_const rfl (w := ?_)
        refine qr_il rfl rfl (w := ?_)
        refine qr_callX rfl (oColumn hO) (qrcv1 kd_0) (w := ?_)
        intro m r ⟨hO, hm⟩
        refine qr_const rfl (w := ?_)
        refine qr_iceq rfl (fun hcffffffftffff => ?_) (fun hcffffffftffff => absurd hcffffffftffff (by omega))
        refine qr_inc6 rfl (by omega) (w := ?_)
        refine qr_goto rfl (w := ?_)
        exact ih (i + 1) _ _ _ _ m r _ _ _ _ _ hO (by omega) (by omega) (by omega) (by omega) (by omega) (fun m r x7 x8 x9 x10 x11 c2 c3 c4 c5 hO q2 q3 q4 q5 => kk m r x7 x8 x9 x10 x11 c2 c3 c4 c5 hO (by omega) (by omega) (by omega) (by omega))
      · obtain ⟨n1, n2, n3⟩ := fFst_nt (qRs w.1) i 0 (by omega)
        obtain ⟨j, n4, n5, n6⟩ := qNt_at (qRs w.1) i 0 (by omega)
        obtain ⟨p1, p2, p3⟩ := fLf_ok (qGf w.1.2.1 i) (by omega)
        have hfj : f' = (j : Int) := by omega
        have hnj : qNt (qRs w.1) i 0 0 = (j : Int) := n4.trans (Int.zero_add _)
        subst hfj
        rw [hnj, if_neg (by omega)] at k0
        have hj9 : qAt (qRs w.1) j ≠ -9 := by omega
        have hfr : qFr' w.1 j = qGf w.1.2.1 i := by
          unfold qFr'
          rw [n6]
        have hpp := d5.2.2.1 _ p2
        have hpa : qPa (fLf (qGf w.1.2.1 i)) = fLf (qGf w.1.2.1 i) := by
          unfold qPa
          rw [if_neg (by omega)]
        rw [hpa] at hpp
        have ev := fValue_yes hj9 hpp.2 (by rw [hfr, p3]; omega)
        rw [hfr, p3] at ev
        refine qr_al rfl rfl (w := ?_)
        refine qr_il rfl rfl (w := ?_)
        refine qr_const rfl (w := ?_)
        refine qr_callX rfl (oShape hO) (qrcv1 kd_0) (w := ?_)
        rw [d2]
        intro m r ⟨hO, hm⟩
        refine qr_is9 rfl (w := ?_)
        refine qr_al rfl rfl (w := ?_)
        refine qr_il rfl rfl (w := ?_)
        refine qr_const rfl (w := ?_)
        refine qr_callX rfl (oShape hO) (qrcv1 kd_0) (w := ?_)
        rw [d3]
        intro m r ⟨hO, hm⟩
        refine qr_is10 rfl (w := ?_)
        refine qr_il rfl rfl (w := ?_)
        refine qr_il rfl rfl (w := ?_)
        refine qr_iclt rfl (fun hc => absurd hc (by omega)) (fun hc => ?_)
        refine qr_const rfl (w := ?_)
        refine qr_goto rfl (w := ?_)
        refine qr_is11 rfl (w := ?_)
        refine qr_il rfl rfl (w := ?_)
        refine qr_il rfl rfl (w := ?_)
        refine qr_add rfl (by omega) (w := ?_)
        refine qr_is2 rfl (w := ?_)
        refine qr_il rfl rfl (w := ?_)
        refine qr_il rfl rfl (w := ?_)
        refine qr_ifeq rfl (fun hcf => absurd hcf (by omega)) (fun hcf => ?_)
        refine qr_const rfl (w := ?_)
        refine qr_goto rfl (w := ?_)
        refine qr_add rfl (by omega) (w := ?_)
        refine qr_is3 rfl (w := ?_)
        refine qr_il rfl rfl (w := ?_)
        refine qr_il rfl rfl (w := ?_)
        refine qr_ifeq rfl (fun hcff => absurd hcff (by omega)) (fun hcff => ?_)
        refine qr_const rfl (w := ?_)
        refine qr_goto rfl (w := ?_)
        refine qr_add rfl (by omega) (w := ?_)
        refine qr_is4 rfl (w := ?_)
        refine qr_il rfl rfl (w := ?_)
        refine qr_il rfl rfl (w := ?_)
        refine qr_il rfl rfl (w := ?_)
        refine qr_ifeq rfl (fun hcfff => absurd hcfff (by omega)) (fun hcfff => ?_)
        refine qr_const rfl (w := ?_)
        refine qr_il rfl rfl (w := ?_)
        refine qr_add rfl (by omega) (w := ?_)
        refine qr_il rfl rfl (w := ?_)
        refine qr_add rfl (by omega) (w := ?_)
        refine qr_il rfl rfl (w := ?_)
        refine qr_il rfl rfl (w := ?_)
        refine qr_mul rfl (by omega) (w := ?_)
        refine qr_add rfl (by omega) (w := ?_)
        refine qr_goto rfl (w := ?_)
        refine qr_add rfl (by omega) (w := ?_)
        refine qr_add rfl (by omega) (w := ?_)
        refine qr_is5 rfl (w := ?_)
        refine qr_al rfl rfl (w := ?_)
        refine qr_il rfl rfl (w := ?_)
        refine qr_const rfl (w := ?_)
        refine qr_callX rfl (oShape hO) (qrcv1 kd_0) (w := ?_)
        intro m r ⟨hO, hm⟩
        refine qr_il rfl rfl (w := ?_)
        refine qr_icne rfl (fun hcffff => absurd hcffff (by omega)) (fun hcffff => ?_)
        refine qr_al rfl rfl (w := ?_)
        refine qr_il rfl rfl (w := ?_)
        refine qr_const rfl (w := ?_)
        refine qr_callX rfl (oShape hO) (qrcv1 kd_0) (w := ?_)
        intro m r ⟨hO, hm⟩
        refine qr_il rfl rfl (w := ?_)
        refine qr_ifeq rfl (fun hcfffff => absurd hcfffff (by omega)) (fun hcfffff => ?_)
        refine qr_const rfl (w := ?_)
        refine qr_goto rfl (w := ?_)
        refine qr_icne rfl (fun hcffffff => absurd hcffffff (by omega)) (fun hcffffff => ?_)
        refine qr_al rfl rfl (w := ?_)
        refine qr_il rfl rfl (w := ?_)
        refine qr_const rfl (w := ?_)
        refine qr_const rfl (w := ?_)
        refine qr_callX rfl (oColumn hO) (qrcv1 kd_0) (w := ?_)
        intro m r ⟨hO, hm⟩
        refine qr_il rfl rfl (w := ?_)
        refine qr_ifne rfl (fun hcfffffff => ?_) (fun hcfffffff => absurd hcfffffff (by omega))
        refine qr_il rfl rfl (w := ?_)
        refine qr_ifne rfl (fun hcffffffft => ?_) (fun hcffffffft => absurd hcffffffft (by omega))
        refine qr_al rfl rfl (w := ?_)
        refine qr_il rfl rfl (w := ?_)
        refine qr_al rfl rfl (w := ?_)
        refine qr_il rfl rfl (w := ?_)
        refine qr_const rfl (w := ?_)
        refine qr_callX rfl (pLeafOf hO hii) (by rfl) (w := ?_)
        intro m r hO
        refine qr_callX rfl (oValue hO) (qrcv1 kd_0) (w := ?_)
        intro m r ⟨hO, hm⟩
        refine qr_icne rfl (fun hcffffffftt => absurd hcffffffftt (by omega)) (fun hcffffffftt => ?_)
        refine qr_il rfl rfl (w := ?_)
        refine qr_ifeq rfl (fun hcfffffffttf => absurd hcfffffffttf (by omega)) (fun hcfffffffttf => ?_)
        refine qr_al rfl rfl (w := ?_)
        refine qr_il rfl rfl (w := ?_)
        refine qr_il rfl rfl (w := ?_)
        refine qr_const rfl (w := ?_)
        refine qr_callX rfl (oColumn hO) (qrcv1 kd_0) (w := ?_)
        intro m r ⟨hO, hm⟩
        refine qr_const rfl (w := ?_)
        refine qr_icne rfl (fun hcfffffffttff => absurd hcfffffffttff (by omega)) (fun hcfffffffttff => ?_)
        refine qr_al rfl rfl (w := ?_)
        refine qr_il rfl rfl (w := ?_)
        refine qr_const rfl (w := ?_)
        refine qr_il rfl rfl (w := ?_)
        refine qr_callX rfl (oColumn hO) (qrcv1 kd_0) (w := ?_)
        intro m r ⟨hO, hm⟩
        refine qr_const rfl (w := ?_)
        refine qr_iceq rfl (fun hcfffffffttfff => ?_) (fun hcfffffffttfff => absurd hcfffffffttfff (by omega))
        refine qr_inc6 rfl (by omega) (w := ?_)
        refine qr_goto rfl (w := ?_)
        exact ih (i + 1) _ _ _ _ m r _ _ _ _ _ hO (by omega) (by omega) (by omega) (by omega) (by omega) (fun m r x7 x8 x9 x10 x11 c2 c3 c4 c5 hO q2 q3 q4 q5 => kk m r x7 x8 x9 x10 x11 c2 c3 c4 c5 hO (by omega) (by omega) (by omega) (by omega))
    · rw [if_neg hc] at d1
      rw [if_neg hc, if_neg hc, if_neg hc] at kk
      rw [if_pos (by omega)] at k0
      refine qr_al rfl rfl (w := ?_)
      refine qr_il rfl rfl (w := ?_)
      refine qr_const rfl (w := ?_)
      refine qr_callX rfl (oShape hO) (qrcv1 kd_0) (w := ?_)
      rw [d2]
      intro m r ⟨hO, hm⟩
      refine qr_is9 rfl (w := ?_)
      refine qr_al rfl rfl (w := ?_)
      refine qr_il rfl rfl (w := ?_)
      refine qr_const rfl (w := ?_)
      refine qr_callX rfl (oShape hO) (qrcv1 kd_0) (w := ?_)
      rw [d3]
      intro m r ⟨hO, hm⟩
      refine qr_is10 rfl (w := ?_)
      refine qr_il rfl rfl (w := ?_)
      refine qr_il rfl rfl (w := ?_)
      refine qr_iclt rfl (fun hc => ?_) (fun hc => absurd hc (by omega))
      refine qr_const rfl (w := ?_)
      refine qr_is11 rfl (w := ?_)
      refine qr_il rfl rfl (w := ?_)
      refine qr_il rfl rfl (w := ?_)
      refine qr_add rfl (by omega) (w := ?_)
      refine qr_is2 rfl (w := ?_)
      refine qr_il rfl rfl (w := ?_)
      refine qr_il rfl rfl (w := ?_)
      refine qr_ifeq rfl (fun hct => ?_) (fun hct => absurd hct (by omega))
      refine qr_const rfl (w := ?_)
      refine qr_add rfl (by omega) (w := ?_)
      refine qr_is3 rfl (w := ?_)
      refine qr_il rfl rfl (w := ?_)
      refine qr_il rfl rfl (w := ?_)
      refine qr_ifeq rfl (fun hctt => ?_) (fun hctt => absurd hctt (by omega))
      refine qr_il rfl rfl (w := ?_)
      refine qr_add rfl (by omega) (w := ?_)
      refine qr_is4 rfl (w := ?_)
      refine qr_il rfl rfl (w := ?_)
      refine qr_il rfl rfl (w := ?_)
      refine qr_il rfl rfl (w := ?_)
      refine qr_ifeq rfl (fun hcttt => ?_) (fun hcttt => absurd hcttt (by omega))
      refine qr_il rfl rfl (w := ?_)
      refine qr_const rfl (w := ?_)
      refine qr_il rfl rfl (w := ?_)
      refine qr_mul rfl (by omega) (w := ?_)
      refine qr_il rfl rfl (w := ?_)
      refine qr_add rfl (by omega) (w := ?_)
      refine qr_mul rfl (by omega) (w := ?_)
      refine qr_add rfl (by omega) (w := ?_)
      refine qr_add rfl (by omega) (w := ?_)
      refine qr_is5 rfl (w := ?_)
      refine qr_al rfl rfl (w := ?_)
      refine qr_il rfl rfl (w := ?_)
      refine qr_const rfl (w := ?_)
      refine qr_callX rfl (oShape hO) (qrcv1 kd_0) (w := ?_)
      intro m r ⟨hO, hm⟩
      refine qr_il rfl rfl (w := ?_)
      refine qr_icne rfl (fun hctttt => absurd hctttt (by omega)) (fun hctttt => ?_)
      refine qr_al rfl rfl (w := ?_)
      refine qr_il rfl rfl (w := ?_)
      refine qr_const rfl (w := ?_)
      refine qr_callX rfl (oShape hO) (qrcv1 kd_0) (w := ?_)
      intro m r ⟨hO, hm⟩
      refine qr_il rfl rfl (w := ?_)
      refine qr_ifeq rfl (fun hcttttf => ?_) (fun hcttttf => absurd hcttttf (by omega))
      refine qr_const rfl (w := ?_)
      refine qr_icne rfl (fun hcttttft => absurd hcttttft (by omega)) (fun hcttttft => ?_)
      refine qr_al rfl rfl (w := ?_)
      refine qr_il rfl rfl (w := ?_)
      refine qr_const rfl (w := ?_)
      refine qr_const rfl (w := ?_)
      refine qr_callX rfl (oColumn hO) (qrcv1 kd_0) (w := ?_)
      intro m r ⟨hO, hm⟩
      refine qr_il rfl rfl (w := ?_)
      refine qr_ifne rfl (fun hcttttftf => absurd hcttttftf (by omega)) (fun hcttttftf => ?_)
      refine qr_const rfl (w := ?_)
      refine qr_goto rfl (w := ?_)
      refine qr_icne rfl (fun hcttttftff => absurd hcttttftff (by omega)) (fun hcttttftff => ?_)
      refine qr_il rfl rfl (w := ?_)
      refine qr_ifeq rfl (fun hcttttftfff => ?_) (fun hcttttftfff => absurd hcttttftfff (by omega))
      refine qr_inc6 rfl (by omega) (w := ?_)
      refine qr_goto rfl (w := ?_)
      exact ih (i + 1) _ _ _ _ m r _ _ _ _ _ hO (by omega) (by omega) (by omega) (by omega) (by omega) (fun m r x7 x8 x9 x10 x11 c2 c3 c4 c5 hO q2 q3 q4 q5 => kk m r x7 x8 x9 x10 x11 c2 c3 c4 c5 hO (by omega) (by omega) (by omega) (by omega))
theorem sh_best {Q : qA → qM → Prop} {bd a2 a3 a4 a5 : Int} {x8 x9 x10 x11 : qA} : ∀ (k i : Nat) (m : Nat → Int → Int) (r : Nat → Int → Option Nat), qOb m r w → i + k = 11 → 1 ≤ i → (∀ (m : Nat → Int → Int) (r : Nat → Int → Option Nat) (x7 : qA), qOb m r w → qW m_Lw_shapes 385 [qK 0, qI bd, qI a2, qI a3, qI a4, qI a5, qI (fBest w), x7, x8, x9, x10, x11] [] (qT0, m, r) Q) → qW m_Lw_shapes 333 [qK 0, qI bd, qI a2, qI a3, qI a4, qI a5, qI (fBest w), qI i, x8, x9, x10, x11] [] (qT0, m, r) Q := by
  have hb := qBb_min (qSz (qRs w.1) w.1.2.1) 9 2 1 (by omega) (by omega) (fun j g1 g2 => by
    have : j = 1 := by omega
    subst this
    exact ⟨Int.le_refl _, fun h => by omega⟩)
  have e0 : fBest w = qBb (qSz (qRs w.1) w.1.2.1) 9 2 1 := rfl
  rw [← e0] at hb
  have e1 : fSizeWith w (fBest w) = qSz (qRs w.1) w.1.2.1 (fBest w) := if_pos (by omega)
  intro k
  induction k with
  | zero =>
    intro i m r hO hik g1 kk
    have hi0 : i = 11 := by omega
    subst hi0
    refine qr_il rfl rfl (w := ?_)
    refine qr_const rfl (w := ?_)
    refine qr_icge rfl (fun hc => ?_) (fun hc => absurd hc (by omega))
    exact kk m r _ hO
  | succ k ih =>
    intro i m r hO hik g1 kk
    have e2 : fSizeWith w i = qSz (qRs w.1) w.1.2.1 i := if_pos (by omega)
    have h3 := hb.2.2 i (by omega) (by omega)
    by_cases hib : fBest w ≤ i
    · refine qr_il rfl rfl (w := ?_)
      refine qr_const rfl (w := ?_)
      refine qr_icge rfl (fun hc => absurd hc (by omega)) (fun hc => ?_)
      refine qr_al rfl rfl (w := ?_)
      refine qr_il rfl rfl (w := ?_)
      refine qr_callX rfl (oSizeWith hO) (qrcv1 kd_0) (w := ?_)
      intro m r ⟨hO, hm⟩
      refine qr_al rfl rfl (w := ?_)
      refine qr_il rfl rfl (w := ?_)
      refine qr_callX rfl (oSizeWith hO) (qrcv1 kd_0) (w := ?_)
      intro m r ⟨hO, hm⟩
      refine qr_iclt rfl (fun hcf => absurd hcf (by omega)) (fun hcf => ?_)
      refine qr_il rfl rfl (w := ?_)
      refine qr_il rfl rfl (w := ?_)
      refine qr_icge rfl (fun hcff => ?_) (fun hcff => absurd hcff (by omega))
      refine qr_inc7 rfl (by omega) (w := ?_)
      refine qr_goto rfl (w := ?_)
      exact ih (i + 1) m r hO (by omega) (by omega) kk
    · have h4 := h3.2 (by omega)
      refine qr_il rfl rfl (w := ?_)
      refine qr_const rfl (w := ?_)
      refine qr_icge rfl (fun hc => absurd hc (by omega)) (fun hc => ?_)
      refine qr_al rfl rfl (w := ?_)
      refine qr_il rfl rfl (w := ?_)
      refine qr_callX rfl (oSizeWith hO) (qrcv1 kd_0) (w := ?_)
      intro m r ⟨hO, hm⟩
      refine qr_al rfl rfl (w := ?_)
      refine qr_il rfl rfl (w := ?_)
      refine qr_callX rfl (oSizeWith hO) (qrcv1 kd_0) (w := ?_)
      intro m r ⟨hO, hm⟩
      refine qr_iclt rfl (fun hcf => absurd hcf (by omega)) (fun hcf => ?_)
      refine qr_il rfl rfl (w := ?_)
      refine qr_il rfl rfl (w := ?_)
      refine qr_icge rfl (fun hcff => absurd hcff (by omega)) (fun hcff => ?_)
      refine qr_al rfl rfl (w := ?_)
      refine qr_il rfl rfl (w := ?_)
      refine qr_callX rfl (oSizeWith hO) (qrcv1 kd_0) (w := ?_)
      intro m r ⟨hO, hm⟩
      refine qr_al rfl rfl (w := ?_)
      refine qr_il rfl rfl (w := ?_)
      refine qr_callX rfl (oSizeWith hO) (qrcv1 kd_0) (w := ?_)
      intro m r ⟨hO, hm⟩
      refine qr_icne rfl (fun hcfff => ?_) (fun hcfff => absurd hcfff (by omega))
      refine qr_inc7 rfl (by omega) (w := ?_)
      refine qr_goto rfl (w := ?_)
      exact ih (i + 1) m r hO (by omega) (by omega) kk
theorem pShapes (hO : qOb m r w) : qW m_Lw_shapes 0 [qK 0, none, none, none, none, none, none, none, none, none, none, none] [] (qT0, m, r) (qPo (qI 1) w) := by
  obtain ⟨b1, b2, b3, b4, b5, b6⟩ := qOb_bd hO
  have k0 : fCount w 0 = qNe (qRs w.1) := rfl
  have k4 : fCount w 4 = qSm w.1.2.1.length 0 (fun s => if w.1.2.2.1 ≤ qCt (qRs w.1) s then 1 else 0) := rfl
  have k5 : fCount w 5 = qSm w.1.2.1.length 0 (fun s => if w.1.2.2.1 ≤ qCt (qRs w.1) s then 0 else qCt (qRs w.1) s) := rfl
  have k6 : fCount w 6 = qSz (qRs w.1) w.1.2.1 w.1.2.2.1 := rfl
  have k7 : fCount w 7 = w.1.2.2.1 := rfl
  have k8 : fSizeWith w w.1.2.2.1 = qSz (qRs w.1) w.1.2.1 w.1.2.2.1 := if_pos b4
  have n1 : qNe (qRs w.1) = qSm w.1.2.1.length 0 (fun s => qCt (qRs w.1) s) := by
    rw [qNe_rm, qRm_ex (fun _ => 1) w.1.2.1.length (qRs w.1) (qRk_mem (qRk_of hO.2.1.1.1))]
    exact qSm_congr _ _ (fun j _ _ => Int.mul_one _)
  have n2 : qSz (qRs w.1) w.1.2.1 w.1.2.2.1 = qSm w.1.2.1.length 0 (fun s => qCt (qRs w.1) s + (if w.1.2.2.1 ≤ qCt (qRs w.1) s then 1 + (qGf w.1.2.1 s).length + qCt (qRs w.1) s * qLv (qGf w.1.2.1 s) else qCt (qRs w.1) s * (2 * qLv (qGf w.1.2.1 s) + ((qGf w.1.2.1 s).length - qLv (qGf w.1.2.1 s))))) := by
    rw [qSm_add, ← n1]
    rfl
  refine qr_al rfl rfl (w := ?_)
  refine qr_const rfl (w := ?_)
  refine qr_callX rfl (oCount hO) (qrcv1 kd_0) (w := ?_)
  rw [k7]
  intro m r ⟨hO, hm⟩
  refine qr_is1 rfl (w := ?_)
  refine qr_const rfl (w := ?_)
  refine qr_is2 rfl (w := ?_)
  refine qr_const rfl (w := ?_)
  refine qr_is3 rfl (w := ?_)
  refine qr_const rfl (w := ?_)
  refine qr_is4 rfl (w := ?_)
  refine qr_const rfl (w := ?_)
  refine qr_is5 rfl (w := ?_)
  refine qr_const rfl (w := ?_)
  refine qr_is6 rfl (w := ?_)
  refine sh_out rfl w.1.2.1.length 0 0 0 0 0 m r _ _ _ _ _ hO (by omega) (by omega) (by omega) (by omega) (by omega) (fun m r x7 x8 x9 x10 x11 c2 c3 c4 c5 hO q2 q3 q4 q5 => ?_)
  refine qr_al rfl rfl (w := ?_)
  refine qr_callX rfl (oBestBound hO) (qrcv1 kd_0) (w := ?_)
  intro m r ⟨hO, hm⟩
  refine qr_is6 rfl (w := ?_)
  refine qr_const rfl (w := ?_)
  refine qr_is7 rfl (w := ?_)
  refine sh_best 10 1 m r hO rfl (by omega) (fun m r x7 hO => ?_)
  refine qr_il rfl rfl (w := ?_)
  refine qr_al rfl rfl (w := ?_)
  refine qr_const rfl (w := ?_)
  refine qr_callX rfl (oCount hO) (qrcv1 kd_0) (w := ?_)
  intro m r ⟨hO, hm⟩
  refine qr_icne rfl (fun hc => absurd hc (by omega)) (fun hc => ?_)
  refine qr_il rfl rfl (w := ?_)
  refine qr_al rfl rfl (w := ?_)
  refine qr_const rfl (w := ?_)
  refine qr_callX rfl (oCount hO) (qrcv1 kd_0) (w := ?_)
  intro m r ⟨hO, hm⟩
  refine qr_icne rfl (fun hcf => absurd hcf (by omega)) (fun hcf => ?_)
  refine qr_il rfl rfl (w := ?_)
  refine qr_al rfl rfl (w := ?_)
  refine qr_const rfl (w := ?_)
  refine qr_callX rfl (oCount hO) (qrcv1 kd_0) (w := ?_)
  intro m r ⟨hO, hm⟩
  refine qr_icne rfl (fun hcff => absurd hcff (by omega)) (fun hcff => ?_)
  refine qr_il rfl rfl (w := ?_)
  refine qr_al rfl rfl (w := ?_)
  refine qr_const rfl (w := ?_)
  refine qr_callX rfl (oCount hO) (qrcv1 kd_0) (w := ?_)
  intro m r ⟨hO, hm⟩
  refine qr_icne rfl (fun hcfff => absurd hcfff (by omega)) (fun hcfff => ?_)
  refine qr_al rfl rfl (w := ?_)
  refine qr_il rfl rfl (w := ?_)
  refine qr_callX rfl (oSizeWith hO) (qrcv1 kd_0) (w := ?_)
  intro m r ⟨hO, hm⟩
  refine qr_il rfl rfl (w := ?_)
  refine qr_icne rfl (fun hcffff => absurd hcffff (by omega)) (fun hcffff => ?_)
  refine qr_const rfl (w := ?_)
  refine qr_goto rfl (w := ?_)
  refine qW_zreturn rfl (by first | exact Or.inl rfl | exact Or.inr rfl | (simp only [qbi]; split <;> simp)) ?_
  exact ⟨m, r, rfl, rfl, hO⟩
