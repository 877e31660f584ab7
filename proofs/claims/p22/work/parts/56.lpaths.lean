/-! paths: what is told of a path against the records -/
variable {m : Nat → Int → Int} {r : Nat → Int → Option Nat} {w : qWd}
theorem fRecord_0 {i : Int} (h : qAt (qRs w.1) i ≠ -9) : fRecord w i 0 = qAt (qRs w.1) i := by
  unfold fRecord
  rw [if_neg h]
  rfl
theorem fRecord_1 {i : Int} (h : qAt (qRs w.1) i ≠ -9) : fRecord w i 1 = qLv (qFr' w.1 i) := by
  unfold fRecord
  rw [if_neg h]
  rfl
theorem fRecord_2 {i : Int} (h : qAt (qRs w.1) i ≠ -9) : fRecord w i 2 = (qFr' w.1 i).length - qLv (qFr' w.1 i) := by
  unfold fRecord
  rw [if_neg h]
  rfl
theorem fRecord_3 {i : Int} (h : qAt (qRs w.1) i ≠ -9) : fRecord w i 3 = (qText w.1.1 (qNvA w.1 i) (qFr' w.1 i)).length := by
  unfold fRecord
  rw [if_neg h]
  rfl
theorem fRecord_4 {i : Int} (h : qAt (qRs w.1) i ≠ -9) : fRecord w i 4 = qSm (qLv (qFr' w.1 i)).toNat 0 (fun j => qVv w.1 i j) := by
  unfold fRecord
  rw [if_neg h]
  rfl
theorem fRecord_9 {i x : Int} (h : qAt (qRs w.1) i = -9) : fRecord w i x = -1 := fRecord_bad (Or.inl h)
theorem fShape_0 {s : Int} (h : 0 ≤ s ∧ s < w.1.2.1.length) : fShape w s 0 = qCt (qRs w.1) s := by
  unfold fShape
  rw [if_neg (fun e => e h)]
  rfl
theorem fShape_1 {s : Int} (h : 0 ≤ s ∧ s < w.1.2.1.length) : fShape w s 1 = if w.1.2.2.1 ≤ qCt (qRs w.1) s then 1 else 0 := by
  unfold fShape
  rw [if_neg (fun e => e h)]
  rfl
theorem fShape_4 {s : Int} (h : 0 ≤ s ∧ s < w.1.2.1.length) : fShape w s 4 = (qText w.1.1 (fun _ => []) (qGf w.1.2.1 s)).length := by
  unfold fShape
  rw [if_neg (fun e => e h)]
  rfl
theorem fValue_no {i p : Int} (h : qAt (qRs w.1) i ≠ -9) (hp : 0 ≤ p ∧ p < w.1.1.length) (h1 : qLp (qFr' w.1 i) p 0 = -9) : fValue w i p = -9 := by
  unfold fValue
  rw [if_neg (fun e => by rcases e with e | e; exact h e; exact e hp), if_pos h1]
theorem fValue_yes {i p : Int} (h : qAt (qRs w.1) i ≠ -9) (hp : 0 ≤ p ∧ p < w.1.1.length) (h1 : qLp (qFr' w.1 i) p 0 ≠ -9) : fValue w i p = qVv w.1 i (qLp (qFr' w.1 i) p 0) := by
  unfold fValue
  rw [if_neg (fun e => by rcases e with e | e; exact h e; exact e hp), if_neg h1]
theorem qLp_rg : ∀ (fs : List Int) (p a : Int), p < 100 → 0 ≤ a → qLp fs p a ≠ -9 → a ≤ qLp fs p a ∧ qLp fs p a < a + qLv fs := by
  intro fs
  induction fs with
  | nil => intro p a _ _ h; exact absurd rfl h
  | cons f t ih =>
    intro p a hp ha h
    have h0 := (qLv_rng t).1
    simp only [qLp, qLv] at h ⊢
    by_cases e : f = p
    · rw [if_pos e, if_pos (by omega)]
      omega
    · rw [if_neg e] at h ⊢
      have := ih p (a + if f < 100 then 1 else 0) hp (by split <;> omega) h
      split at this <;> split <;> omega
theorem fValue_rng (hx : qXN w) {i p : Int} (h : qAt (qRs w.1) i ≠ -9) (hp : 0 ≤ p ∧ p < w.1.1.length) (h1 : qLp (qFr' w.1 i) p 0 ≠ -9) : 0 ≤ qVv w.1 i (qLp (qFr' w.1 i) p 0) ∧ qVv w.1 i (qLp (qFr' w.1 i) p 0) ≤ 999 := by
  have h2 := qLp_rg (qFr' w.1 i) p 0 (by have := hx.1.1.1.1.1; omega) (by omega) h1
  exact (qRv_of hx.1.1.1 i h).2 _ h2.1 (by omega)
theorem qAt_drop {l : List Int} {j : Nat} (h : j < l.length) : l.drop j = qAt l j :: l.drop (j + 1) := by
  rw [List.drop_eq_getElem_cons h, qAt_lt h]
theorem qCt_nd {l : List Int} (h : l.Nodup) (x : Int) : qCt l x = if x ∈ l then 1 else 0 := by
  induction l with
  | nil => simp [qCt]
  | cons f t ih =>
    rw [List.nodup_cons] at h
    simp only [qCt]
    rw [ih h.2]
    by_cases e : f = x
    · subst e
      rw [if_pos rfl, if_neg h.1, if_pos List.mem_cons_self]
      rfl
    · rw [if_neg e]
      by_cases e2 : x ∈ t
      · rw [if_pos e2, if_pos (List.mem_cons_of_mem _ e2)]
        rfl
      · rw [if_neg e2, if_neg (fun e3 => by rcases List.mem_cons.mp e3 with e3 | e3; exact e e3.symm; exact e2 e3)]
        rfl
theorem qMap_nd {l : List Int} {f : Int → Int} (h : (l.map f).Nodup) : l.Nodup := (List.pairwise_map.mp h).imp (fun hne e => hne (congrArg f e))
theorem qCt_ge (l : List Int) (x : Int) : 0 ≤ qCt l x ∧ qCt l x ≤ l.length := by
  induction l with
  | nil => simp [qCt]
  | cons f t ih =>
    simp only [qCt, List.length_cons]
    split <;> omega
theorem pa_in {p : Int} {Q : qA → qM → Prop} {i : Nat} (hi : qAt (qRs w.1) i ≠ -9) (hp : 0 ≤ p ∧ p < w.1.1.length) {a2 a3 a4 : Int} {x8 : qA} : ∀ (k j : Nat) (a5 : Int) (m : Nat → Int → Int) (r : Nat → Int → Option Nat), qOb m r w → j + k = (qFr' w.1 i).length → 0 ≤ a5 → a5 ≤ 1000 + j → (∀ (m : Nat → Int → Int) (r : Nat → Int → Option Nat) (x9 : qA), qOb m r w → qW m_Lw_paths 171 [qK 0, qI p, qI a2, qI a3, qI a4, qI (a5 + qCt ((qFr' w.1 i).drop j) (100 + p)), qI i, qI (qAt (qRs w.1) i), x8, x9] [] (qT0, m, r) Q) → qW m_Lw_paths 120 [qK 0, qI p, qI a2, qI a3, qI a4, qI a5, qI i, qI (qAt (qRs w.1) i), x8, qI j] [] (qT0, m, r) Q := by
  have e1 := fRecord_1 hi
  have e2 := fRecord_2 hi
  have e3 := qLv_rng (qFr' w.1 i)
  intro k
  induction k with
  | zero =>
    intro j a5 m r hO hjk g1 g2 kk
    obtain ⟨b1, b2, b3, b4, b5, b6⟩ := qOb_bd hO
    have d5 : (qFr' w.1 i).length ≤ 20 := (qWs_gf hO.2.1.1.1 _).1
    have hj0 : j = (qFr' w.1 i).length := by omega
    rw [List.drop_eq_nil_of_le (by omega)] at kk
    refine qr_il rfl rfl (w := ?_)
    refine qr_al rfl rfl (w := ?_)
    refine qr_il rfl rfl (w := ?_)
    refine qr_const rfl (w := ?_)
    refine qr_callX rfl (oRecord hO) (qrcv1 kd_0) (w := ?_)
    intro m r ⟨hO, hm⟩
    refine qr_al rfl rfl (w := ?_)
    refine qr_il rfl rfl (w := ?_)
    refine qr_const rfl (w := ?_)
    refine qr_callX rfl (oRecord hO) (qrcv1 kd_0) (w := ?_)
    intro m r ⟨hO, hm⟩
    refine qr_add rfl (by omega) (w := ?_)
    refine qr_icge rfl (fun hc => ?_) (fun hc => absurd hc (by omega))
    have h9 := kk m r (qI j) hO
    simp only [qCt, Int.add_zero] at h9
    exact h9
  | succ k ih =>
    intro j a5 m r hO hjk g1 g2 kk
    obtain ⟨b1, b2, b3, b4, b5, b6⟩ := qOb_bd hO
    have d5 : (qFr' w.1 i).length ≤ 20 := (qWs_gf hO.2.1.1.1 _).1
    have hs := qWA_rs hO.2.1.1.1 (i : Int)
    have ef : fField w (qAt (qRs w.1) i) j = qAt (qFr' w.1 i) j := by
      unfold fField
      rw [if_neg (by omega)]
      rfl
    rw [qAt_drop (by omega)] at kk
    simp only [qCt] at kk
    refine qr_il rfl rfl (w := ?_)
    refine qr_al rfl rfl (w := ?_)
    refine qr_il rfl rfl (w := ?_)
    refine qr_const rfl (w := ?_)
    refine qr_callX rfl (oRecord hO) (qrcv1 kd_0) (w := ?_)
    intro m r ⟨hO, hm⟩
    refine qr_al rfl rfl (w := ?_)
    refine qr_il rfl rfl (w := ?_)
    refine qr_const rfl (w := ?_)
    refine qr_callX rfl (oRecord hO) (qrcv1 kd_0) (w := ?_)
    intro m r ⟨hO, hm⟩
    refine qr_add rfl (by omega) (w := ?_)
    refine qr_icge rfl (fun hc => absurd hc (by omega)) (fun hc => ?_)
    refine qr_il rfl rfl (w := ?_)
    refine qr_al rfl rfl (w := ?_)
    refine qr_il rfl rfl (w := ?_)
    refine qr_il rfl rfl (w := ?_)
    refine qr_callX rfl (oField hO) (qrcv1 kd_0) (w := ?_)
    intro m r ⟨hO, hm⟩
    refine qr_const rfl (w := ?_)
    refine qr_il rfl rfl (w := ?_)
    refine qr_add rfl (by omega) (w := ?_)
    refine qr_icne rfl (fun hcf => ?_) (fun hcf => ?_)
    · refine qr_const rfl (w := ?_)
      refine qr_add rfl (by omega) (w := ?_)
      refine qr_is5 rfl (w := ?_)
      refine qr_inc9 rfl (by omega) (w := ?_)
      refine qr_goto rfl (w := ?_)
      refine ih (j + 1) _ m r hO (by omega) (by omega) (by omega) (fun m r x9 hO => ?_)
      have h9 := kk m r x9 hO
      first | (rw [if_pos (by omega), ← Int.add_assoc] at h9; exact h9) | (rw [if_neg (by omega), ← Int.add_assoc] at h9; exact h9)
    · refine qr_const rfl (w := ?_)
      refine qr_goto rfl (w := ?_)
      refine qr_add rfl (by omega) (w := ?_)
      refine qr_is5 rfl (w := ?_)
      refine qr_inc9 rfl (by omega) (w := ?_)
      refine qr_goto rfl (w := ?_)
      refine ih (j + 1) _ m r hO (by omega) (by omega) (by omega) (fun m r x9 hO => ?_)
      have h9 := kk m r x9 hO
      first | (rw [if_pos (by omega), ← Int.add_assoc] at h9; exact h9) | (rw [if_neg (by omega), ← Int.add_assoc] at h9; exact h9)
theorem pa_out {p : Int} {Q : qA → qM → Prop} (hp : 0 ≤ p ∧ p < w.1.1.length) : ∀ (k i : Nat) (a2 a3 a4 a5 : Int) (m : Nat → Int → Int) (r : Nat → Int → Option Nat) (x7 x8 x9 : qA), qOb m r w → i + k = w.1.2.2.2.length → (0 ≤ a2 ∧ a2 ≤ i) → (0 ≤ a3 ∧ a3 ≤ 999 * i) → (0 ≤ a4 ∧ a4 ≤ 20 * i) → (0 ≤ a5 ∧ a5 ≤ 20 * i) → (∀ (m : Nat → Int → Int) (r : Nat → Int → Option Nat) (x7 x8 x9 : qA) (c2 c3 c4 c5 : Int), qOb m r w → c2 = a2 + qSm k i (qOver w.1 p 2) → c3 = a3 + qSm k i (qOver w.1 p 4) → c4 = a4 + qSm k i (qOver w.1 p 5) → c5 = a5 + qSm k i (qOver w.1 p 3) → qW m_Lw_paths 177 [qK 0, qI p, qI c2, qI c3, qI c4, qI c5, qI (w.1.2.2.2.length : Nat), x7, x8, x9] [] (qT0, m, r) Q) → qW m_Lw_paths 13 [qK 0, qI p, qI a2, qI a3, qI a4, qI a5, qI i, x7, x8, x9] [] (qT0, m, r) Q := by
  have c1 : fCount w 1 = (w.1.2.2.2.length : Int) := rfl
  have c2 : fCount w 2 = (w.1.1.length : Int) := rfl
  have c3 : fCount w 3 = (w.1.2.1.length : Int) := rfl
  have c8 : fCount w 8 = (w.2.1.length : Int) := rfl
  intro k
  induction k with
  | zero =>
    intro i a2 a3 a4 a5 m r x7 x8 x9 hO hik g2 g3 g4 g5 kk
    have hi0 : i = w.1.2.2.2.length := by omega
    subst hi0
    refine qr_il rfl rfl (w := ?_)
    refine qr_al rfl rfl (w := ?_)
    refine qr_const rfl (w := ?_)
    refine qr_callX rfl (oCount hO) (qrcv1 kd_0) (w := ?_)
    intro m r ⟨hO, hm⟩
    refine qr_icge rfl (fun hc => ?_) (fun hc => absurd hc (by omega))
    exact kk m r x7 x8 x9 _ _ _ _ hO (by simp [qSm]) (by simp [qSm]) (by simp [qSm]) (by simp [qSm])
  | succ k ih =>
    intro i a2 a3 a4 a5 m r x7 x8 x9 hO hik g2 g3 g4 g5 kk
    obtain ⟨b1, b2, b3, b4, b5, b6⟩ := qOb_bd hO
    simp only [qSm] at kk
    by_cases h9 : qAt (qRs w.1) i = -9
    · have e0 : fRecord w i 0 = -1 := fRecord_9 h9
      have o2 : qOver w.1 p 2 i = 0 := if_pos h9
      have o3 : qOver w.1 p 3 i = 0 := if_pos h9
      have o4 : qOver w.1 p 4 i = 0 := if_pos h9
      have o5 : qOver w.1 p 5 i = 0 := if_pos h9
      refine qr_il rfl rfl (w := ?_)
      refine qr_al rfl rfl (w := ?_)
      refine qr_const rfl (w := ?_)
      refine qr_callX rfl (oCount hO) (qrcv1 kd_0) (w := ?_)
      intro m r ⟨hO, hm⟩
      refine qr_icge rfl (fun hc => absurd hc (by omega)) (fun hc => ?_)
      refine qr_al rfl rfl (w := ?_)
      refine qr_il rfl rfl (w := ?_)
      refine qr_const rfl (w := ?_)
      refine qr_callX rfl (oRecord hO) (qrcv1 kd_0) (w := ?_)
      intro m r ⟨hO, hm⟩
      refine qr_is7 rfl (w := ?_)
      refine qr_il rfl rfl (w := ?_)
      refine qr_iflt rfl (fun hcf => ?_) (fun hcf => absurd hcf (by omega))
      refine qr_inc6 rfl (by omega) (w := ?_)
      refine qr_goto rfl (w := ?_)
      exact ih (i + 1) _ _ _ _ m r _ _ _ hO (by omega) (by omega) (by omega) (by omega) (by omega) (fun m r x7 x8 x9 c2 c3 c4 c5 hO q2 q3 q4 q5 => kk m r x7 x8 x9 c2 c3 c4 c5 hO (by omega) (by omega) (by omega) (by omega))
    · have hs := qWA_rs hO.2.1.1.1 (i : Int)
      have d5 : (qFr' w.1 i).length ≤ 20 := (qWs_gf hO.2.1.1.1 _).1
      have e0 := fRecord_0 h9
      have e1 := fRecord_1 h9
      have e2 := fRecord_2 h9
      have e3 := qLv_rng (qFr' w.1 i)
      have es := fShape_1 (w := w) (s := qAt (qRs w.1) i) (by omega)
      have o3 : qOver w.1 p 3 i = qCt (qFr' w.1 i) (100 + p) := by
        rw [qCt_nd (l := qFr' w.1 i) (qMap_nd (qXN_gf hO.2.2.1 _))]
        exact if_neg h9
      have hcr := qCt_ge (qFr' w.1 i) (100 + p)
      have o2 : qOver w.1 p 2 i = if qLp (qFr' w.1 i) p 0 = -9 then 0 else 1 := if_neg h9
      have o4 : qOver w.1 p 4 i = if qLp (qFr' w.1 i) p 0 = -9 then 0 else qVv w.1 i (qLp (qFr' w.1 i) p 0) := if_neg h9
      have o5 : qOver w.1 p 5 i = if w.1.2.2.1 ≤ qCt (qRs w.1) (qAt (qRs w.1) i) then (if qLp (qFr' w.1 i) p 0 = -9 then 0 else 1) else ((qFr' w.1 i).length : Int) := if_neg h9
      have ih2 : ∀ (a2' a3' a4' : Int) (m : Nat → Int → Int) (r : Nat → Int → Option Nat) (x8 : qA), qOb m r w → a2' = a2 + qOver w.1 p 2 i → a3' = a3 + qOver w.1 p 4 i → a4' = a4 + qOver w.1 p 5 i → (0 ≤ a2' ∧ a2' ≤ i + 1) → (0 ≤ a3' ∧ a3' ≤ 999 * (i + 1)) → (0 ≤ a4' ∧ a4' ≤ 20 * (i + 1)) → qW m_Lw_paths 120 [qK 0, qI p, qI a2', qI a3', qI a4', qI a5, qI i, qI (qAt (qRs w.1) i), x8, qI (0 : Nat)] [] (qT0, m, r) Q := by
        intro a2' a3' a4' m r x8 hO f2 f3 f4 f6 f7 f8
        refine pa_in h9 hp (qFr' w.1 i).length 0 a5 m r hO (by omega) (by omega) (by omega) (fun m r x9 hO => ?_)
        rw [List.drop_zero]
        refine qr_inc6 rfl (by omega) (w := ?_)
        refine qr_goto rfl (w := ?_)
        exact ih (i + 1) _ _ _ _ m r _ _ _ hO (by omega) (by omega) (by omega) (by omega) (by omega) (fun m r x7 x8 x9 c2 c3 c4 c5 hO q2 q3 q4 q5 => kk m r x7 x8 x9 c2 c3 c4 c5 hO (by omega) (by omega) (by omega) (by omega))
      by_cases hl : qLp (qFr' w.1 i) p 0 = -9
      · rw [if_pos hl] at o2 o4 o5
        have ev := fValue_no h9 hp hl
        by_cases hc9 : w.1.2.2.1 ≤ qCt (qRs w.1) (qAt (qRs w.1) i)
        · rw [if_pos hc9] at o5 es
          refine qr_il rfl rfl (w := ?_)
          refine qr_al rfl rfl (w := ?_)
          refine qr_const rfl (w := ?_)
          refine qr_callX rfl (oCount hO) (qrcv1 kd_0) (w := ?_)
          intro m r ⟨hO, hm⟩
          refine qr_icge rfl (fun hc => absurd hc (by omega)) (fun hc => ?_)
          refine qr_al rfl rfl (w := ?_)
          refine qr_il rfl rfl (w := ?_)
          refine qr_const rfl (w := ?_)
          refine qr_callX rfl (oRecord hO) (qrcv1 kd_0) (w := ?_)
          rw [e0]
          intro m r ⟨hO, hm⟩
          refine qr_is7 rfl (w := ?_)
          refine qr_il rfl rfl (w := ?_)
          refine qr_iflt rfl (fun hcf => absurd hcf (by omega)) (fun hcf => ?_)
          refine qr_al rfl rfl (w := ?_)
          refine qr_il rfl rfl (w := ?_)
          refine qr_il rfl rfl (w := ?_)
          refine qr_callX rfl (oValue hO) (qrcv1 kd_0) (w := ?_)
          intro m r ⟨hO, hm⟩
          refine qr_is8 rfl (w := ?_)
          refine qr_il rfl rfl (w := ?_)
          refine qr_il rfl rfl (w := ?_)
          refine qr_iflt rfl (fun hcff => ?_) (fun hcff => absurd hcff (by omega))
          refine qr_const rfl (w := ?_)
          refine qr_add rfl (by omega) (w := ?_)
          refine qr_is2 rfl (w := ?_)
          refine qr_il rfl rfl (w := ?_)
          refine qr_il rfl rfl (w := ?_)
          refine qr_iflt rfl (fun hcfft => ?_) (fun hcfft => absurd hcfft (by omega))
          refine qr_const rfl (w := ?_)
          refine qr_add rfl (by omega) (w := ?_)
          refine qr_is3 rfl (w := ?_)
          refine qr_il rfl rfl (w := ?_)
          refine qr_al rfl rfl (w := ?_)
          refine qr_il rfl rfl (w := ?_)
          refine qr_const rfl (w := ?_)
          refine qr_callX rfl (oShape hO) (qrcv1 kd_0) (w := ?_)
          intro m r ⟨hO, hm⟩
          refine qr_const rfl (w := ?_)
          refine qr_icne rfl (fun hcfftt => absurd hcfftt (by omega)) (fun hcfftt => ?_)
          refine qr_il rfl rfl (w := ?_)
          refine qr_iflt rfl (fun hcffttf => ?_) (fun hcffttf => absurd hcffttf (by omega))
          refine qr_const rfl (w := ?_)
          refine qr_goto rfl (w := ?_)
          refine qr_add rfl (by omega) (w := ?_)
          refine qr_is4 rfl (w := ?_)
          refine qr_const rfl (w := ?_)
          refine qr_is9 rfl (w := ?_)
          exact ih2 _ _ _ m r _ hO (by omega) (by omega) (by omega) (by omega) (by omega) (by omega)

        · rw [if_neg hc9] at o5 es
          refine qr_il rfl rfl (w := ?_)
          refine qr_al rfl rfl (w := ?_)
          refine qr_const rfl (w := ?_)
          refine qr_callX rfl (oCount hO) (qrcv1 kd_0) (w := ?_)
          intro m r ⟨hO, hm⟩
          refine qr_icge rfl (fun hc => absurd hc (by omega)) (fun hc => ?_)
          refine qr_al rfl rfl (w := ?_)
          refine qr_il rfl rfl (w := ?_)
          refine qr_const rfl (w := ?_)
          refine qr_callX rfl (oRecord hO) (qrcv1 kd_0) (w := ?_)
          rw [e0]
          intro m r ⟨hO, hm⟩
          refine qr_is7 rfl (w := ?_)
          refine qr_il rfl rfl (w := ?_)
          refine qr_iflt rfl (fun hcf => absurd hcf (by omega)) (fun hcf => ?_)
          refine qr_al rfl rfl (w := ?_)
          refine qr_il rfl rfl (w := ?_)
          refine qr_il rfl rfl (w := ?_)
          refine qr_callX rfl (oValue hO) (qrcv1 kd_0) (w := ?_)
          intro m r ⟨hO, hm⟩
          refine qr_is8 rfl (w := ?_)
          refine qr_il rfl rfl (w := ?_)
          refine qr_il rfl rfl (w := ?_)
          refine qr_iflt rfl (fun hcff => ?_) (fun hcff => absurd hcff (by omega))
          refine qr_const rfl (w := ?_)
          refine qr_add rfl (by omega) (w := ?_)
          refine qr_is2 rfl (w := ?_)
          refine qr_il rfl rfl (w := ?_)
          refine qr_il rfl rfl (w := ?_)
          refine qr_iflt rfl (fun hcfft => ?_) (fun hcfft => absurd hcfft (by omega))
          refine qr_const rfl (w := ?_)
          refine qr_add rfl (by omega) (w := ?_)
          refine qr_is3 rfl (w := ?_)
          refine qr_il rfl rfl (w := ?_)
          refine qr_al rfl rfl (w := ?_)
          refine qr_il rfl rfl (w := ?_)
          refine qr_const rfl (w := ?_)
          refine qr_callX rfl (oShape hO) (qrcv1 kd_0) (w := ?_)
          intro m r ⟨hO, hm⟩
          refine qr_const rfl (w := ?_)
          refine qr_icne rfl (fun hcfftt => ?_) (fun hcfftt => absurd hcfftt (by omega))
          refine qr_al rfl rfl (w := ?_)
          refine qr_il rfl rfl (w := ?_)
          refine qr_const rfl (w := ?_)
          refine qr_callX rfl (oRecord hO) (qrcv1 kd_0) (w := ?_)
          intro m r ⟨hO, hm⟩
          refine qr_al rfl rfl (w := ?_)
          refine qr_il rfl rfl (w := ?_)
          refine qr_const rfl (w := ?_)
          refine qr_callX rfl (oRecord hO) (qrcv1 kd_0) (w := ?_)
          intro m r ⟨hO, hm⟩
          refine qr_add rfl (by omega) (w := ?_)
          refine qr_add rfl (by omega) (w := ?_)
          refine qr_is4 rfl (w := ?_)
          refine qr_const rfl (w := ?_)
          refine qr_is9 rfl (w := ?_)
          exact ih2 _ _ _ m r _ hO (by omega) (by omega) (by omega) (by omega) (by omega) (by omega)

      · rw [if_neg hl] at o2 o4 o5
        have ev := fValue_yes h9 hp hl
        have ev2 := fValue_rng hO.2 h9 hp hl
        by_cases hc9 : w.1.2.2.1 ≤ qCt (qRs w.1) (qAt (qRs w.1) i)
        · rw [if_pos hc9] at o5 es
          refine qr_il rfl rfl (w := ?_)
          refine qr_al rfl rfl (w := ?_)
          refine qr_const rfl (w := ?_)
          refine qr_callX rfl (oCount hO) (qrcv1 kd_0) (w := ?_)
          intro m r ⟨hO, hm⟩
          refine qr_icge rfl (fun hc => absurd hc (by omega)) (fun hc => ?_)
          refine qr_al rfl rfl (w := ?_)
          refine qr_il rfl rfl (w := ?_)
          refine qr_const rfl (w := ?_)
          refine qr_callX rfl (oRecord hO) (qrcv1 kd_0) (w := ?_)
          rw [e0]
          intro m r ⟨hO, hm⟩
          refine qr_is7 rfl (w := ?_)
          refine qr_il rfl rfl (w := ?_)
          refine qr_iflt rfl (fun hcf => absurd hcf (by omega)) (fun hcf => ?_)
          refine qr_al rfl rfl (w := ?_)
          refine qr_il rfl rfl (w := ?_)
          refine qr_il rfl rfl (w := ?_)
          refine qr_callX rfl (oValue hO) (qrcv1 kd_0) (w := ?_)
          intro m r ⟨hO, hm⟩
          refine qr_is8 rfl (w := ?_)
          refine qr_il rfl rfl (w := ?_)
          refine qr_il rfl rfl (w := ?_)
          refine qr_iflt rfl (fun hcff => absurd hcff (by omega)) (fun hcff => ?_)
          refine qr_const rfl (w := ?_)
          refine qr_goto rfl (w := ?_)
          refine qr_add rfl (by omega) (w := ?_)
          refine qr_is2 rfl (w := ?_)
          refine qr_il rfl rfl (w := ?_)
          refine qr_il rfl rfl (w := ?_)
          refine qr_iflt rfl (fun hcfff => absurd hcfff (by omega)) (fun hcfff => ?_)
          refine qr_il rfl rfl (w := ?_)
          refine qr_goto rfl (w := ?_)
          refine qr_add rfl (by omega) (w := ?_)
          refine qr_is3 rfl (w := ?_)
          refine qr_il rfl rfl (w := ?_)
          refine qr_al rfl rfl (w := ?_)
          refine qr_il rfl rfl (w := ?_)
          refine qr_const rfl (w := ?_)
          refine qr_callX rfl (oShape hO) (qrcv1 kd_0) (w := ?_)
          intro m r ⟨hO, hm⟩
          refine qr_const rfl (w := ?_)
          refine qr_icne rfl (fun hcffff => absurd hcffff (by omega)) (fun hcffff => ?_)
          refine qr_il rfl rfl (w := ?_)
          refine qr_iflt rfl (fun hcfffff => absurd hcfffff (by omega)) (fun hcfffff => ?_)
          refine qr_const rfl (w := ?_)
          refine qr_goto rfl (w := ?_)
          refine qr_add rfl (by omega) (w := ?_)
          refine qr_is4 rfl (w := ?_)
          refine qr_const rfl (w := ?_)
          refine qr_is9 rfl (w := ?_)
          exact ih2 _ _ _ m r _ hO (by omega) (by omega) (by omega) (by omega) (by omega) (by omega)

        · rw [if_neg hc9] at o5 es
          refine qr_il rfl rfl (w := ?_)
          refine qr_al rfl rfl (w := ?_)
          refine qr_const rfl (w := ?_)
          refine qr_callX rfl (oCount hO) (qrcv1 kd_0) (w := ?_)
          intro m r ⟨hO, hm⟩
          refine qr_icge rfl (fun hc => absurd hc (by omega)) (fun hc => ?_)
          refine qr_al rfl rfl (w := ?_)
          refine qr_il rfl rfl (w := ?_)
          refine qr_const rfl (w := ?_)
          refine qr_callX rfl (oRecord hO) (qrcv1 kd_0) (w := ?_)
          rw [e0]
          intro m r ⟨hO, hm⟩
          refine qr_is7 rfl (w := ?_)
          refine qr_il rfl rfl (w := ?_)
          refine qr_iflt rfl (fun hcf => absurd hcf (by omega)) (fun hcf => ?_)
          refine qr_al rfl rfl (w := ?_)
          refine qr_il rfl rfl (w := ?_)
          refine qr_il rfl rfl (w := ?_)
          refine qr_callX rfl (oValue hO) (qrcv1 kd_0) (w := ?_)
          intro m r ⟨hO, hm⟩
          refine qr_is8 rfl (w := ?_)
          refine qr_il rfl rfl (w := ?_)
          refine qr_il rfl rfl (w := ?_)
          refine qr_iflt rfl (fun hcff => absurd hcff (by omega)) (fun hcff => ?_)
          refine qr_const rfl (w := ?_)
          refine qr_goto rfl (w := ?_)
          refine qr_add rfl (by omega) (w := ?_)
          refine qr_is2 rfl (w := ?_)
          refine qr_il rfl rfl (w := ?_)
          refine qr_il rfl rfl (w := ?_)
          refine qr_iflt rfl (fun hcfff => absurd hcfff (by omega)) (fun hcfff => ?_)
          refine qr_il rfl rfl (w := ?_)
          refine qr_goto rfl (w := ?_)
          refine qr_add rfl (by omega) (w := ?_)
          refine qr_is3 rfl (w := ?_)
          refine qr_il rfl rfl (w := ?_)
          refine qr_al rfl rfl (w := ?_)
          refine qr_il rfl rfl (w := ?_)
          refine qr_const rfl (w := ?_)
          refine qr_callX rfl (oShape hO) (qrcv1 kd_0) (w := ?_)
          intro m r ⟨hO, hm⟩
          refine qr_const rfl (w := ?_)
          refine qr_icne rfl (fun hcffff => ?_) (fun hcffff => absurd hcffff (by omega))
          refine qr_al rfl rfl (w := ?_)
          refine qr_il rfl rfl (w := ?_)
          refine qr_const rfl (w := ?_)
          refine qr_callX rfl (oRecord hO) (qrcv1 kd_0) (w := ?_)
          intro m r ⟨hO, hm⟩
          refine qr_al rfl rfl (w := ?_)
          refine qr_il rfl rfl (w := ?_)
          refine qr_const rfl (w := ?_)
          refine qr_callX rfl (oRecord hO) (qrcv1 kd_0) (w := ?_)
          intro m r ⟨hO, hm⟩
          refine qr_add rfl (by omega) (w := ?_)
          refine qr_add rfl (by omega) (w := ?_)
          refine qr_is4 rfl (w := ?_)
          refine qr_const rfl (w := ?_)
          refine qr_is9 rfl (w := ?_)
          exact ih2 _ _ _ m r _ hO (by omega) (by omega) (by omega) (by omega) (by omega) (by omega)
theorem pPaths (hO : qOb m r w) {p : Int} (hp : 0 ≤ p ∧ p < w.1.1.length) : qW m_Lw_paths 0 [qK 0, qI p, none, none, none, none, none, none, none, none] [] (qT0, m, r) (qPo (qI 1) w) := by
  obtain ⟨b1, b2, b3, b4, b5, b6⟩ := qOb_bd hO
  have hr := qRk_of hO.2.1.1.1
  have p2 := fPath_o hr hp (x := 2) (by omega)
  have p3 := fPath_o hr hp (x := 3) (by omega)
  have p4 := fPath_o hr hp (x := 4) (by omega)
  have p5 := fPath_o hr hp (x := 5) (by omega)
  have p0 := fPath_0 hp
  have p1 := fPath_1 hp
  have u1 := qOu_rng hO.2.1.1.1.1 p
  have u0 := hO.2.1.1.1.1.2 p.toNat (by omega)
  have u2 := qLe_at (ps := w.1.1) (i := p.toNat) (by omega)
  rw [Int.toNat_of_nonneg hp.1] at u2
  have u3 : qLe w.1.1 p = qAt (w.1.1.map Prod.fst) p := rfl
  refine qr_const rfl (w := ?_)
  refine qr_is2 rfl (w := ?_)
  refine qr_const rfl (w := ?_)
  refine qr_is3 rfl (w := ?_)
  refine qr_const rfl (w := ?_)
  refine qr_is4 rfl (w := ?_)
  refine qr_const rfl (w := ?_)
  refine qr_is5 rfl (w := ?_)
  refine qr_const rfl (w := ?_)
  refine qr_is6 rfl (w := ?_)
  refine pa_out hp w.1.2.2.2.length 0 0 0 0 0 m r _ _ _ hO (by omega) (by omega) (by omega) (by omega) (by omega) (fun m r x7 x8 x9 c2 c3 c4 c5 hO q2 q3 q4 q5 => ?_)
  refine qr_al rfl rfl (w := ?_)
  refine qr_il rfl rfl (w := ?_)
  refine qr_const rfl (w := ?_)
  refine qr_callX rfl (oPath hO) (qrcv1 kd_0) (w := ?_)
  intro m r ⟨hO, hm⟩
  refine qr_is6 rfl (w := ?_)
  refine qr_al rfl rfl (w := ?_)
  refine qr_il rfl rfl (w := ?_)
  refine qr_const rfl (w := ?_)
  refine qr_callX rfl (oPath hO) (qrcv1 kd_0) (w := ?_)
  intro m r ⟨hO, hm⟩
  refine qr_il rfl rfl (w := ?_)
  refine qr_icne rfl (fun hc => absurd hc (by omega)) (fun hc => ?_)
  refine qr_al rfl rfl (w := ?_)
  refine qr_il rfl rfl (w := ?_)
  refine qr_const rfl (w := ?_)
  refine qr_callX rfl (oPath hO) (qrcv1 kd_0) (w := ?_)
  intro m r ⟨hO, hm⟩
  refine qr_il rfl rfl (w := ?_)
  refine qr_icne rfl (fun hcf => absurd hcf (by omega)) (fun hcf => ?_)
  refine qr_al rfl rfl (w := ?_)
  refine qr_il rfl rfl (w := ?_)
  refine qr_const rfl (w := ?_)
  refine qr_callX rfl (oPath hO) (qrcv1 kd_0) (w := ?_)
  intro m r ⟨hO, hm⟩
  refine qr_il rfl rfl (w := ?_)
  refine qr_icne rfl (fun hcff => absurd hcff (by omega)) (fun hcff => ?_)
  refine qr_al rfl rfl (w := ?_)
  refine qr_il rfl rfl (w := ?_)
  refine qr_const rfl (w := ?_)
  refine qr_callX rfl (oPath hO) (qrcv1 kd_0) (w := ?_)
  intro m r ⟨hO, hm⟩
  refine qr_il rfl rfl (w := ?_)
  refine qr_icne rfl (fun hcfff => absurd hcfff (by omega)) (fun hcfff => ?_)
  refine qr_il rfl rfl (w := ?_)
  refine qr_il rfl rfl (w := ?_)
  refine qr_icge rfl (fun hcffff => absurd hcffff (by omega)) (fun hcffff => ?_)
  refine qr_il rfl rfl (w := ?_)
  refine qr_ifge rfl (fun hcfffff => ?_) (fun hcfffff => ?_)
  · refine qr_al rfl rfl (w := ?_)
    refine qr_il rfl rfl (w := ?_)
    refine qr_const rfl (w := ?_)
    refine qr_callX rfl (oPath hO) (qrcv1 kd_0) (w := ?_)
    intro m r ⟨hO, hm⟩
    refine qr_const rfl (w := ?_)
    refine qr_iclt rfl (fun hcffffft => absurd hcffffft (by omega)) (fun hcffffft => ?_)
    refine qr_al rfl rfl (w := ?_)
    refine qr_il rfl rfl (w := ?_)
    refine qr_const rfl (w := ?_)
    refine qr_callX rfl (oPath hO) (qrcv1 kd_0) (w := ?_)
    intro m r ⟨hO, hm⟩
    refine qr_const rfl (w := ?_)
    refine qr_icgt rfl (fun hcffffftf => absurd hcffffftf (by omega)) (fun hcffffftf => ?_)
    refine qr_const rfl (w := ?_)
    refine qr_goto rfl (w := ?_)
    refine qW_zreturn rfl (by first | exact Or.inl rfl | exact Or.inr rfl | (simp only [qbi]; split <;> simp)) ?_
    exact ⟨m, r, rfl, rfl, hO⟩
  · refine qr_il rfl rfl (w := ?_)
    refine qr_const rfl (w := ?_)
    refine qr_icne rfl (fun hcffffff => absurd hcffffff (by omega)) (fun hcffffff => ?_)
    refine qr_al rfl rfl (w := ?_)
    refine qr_il rfl rfl (w := ?_)
    refine qr_const rfl (w := ?_)
    refine qr_callX rfl (oPath hO) (qrcv1 kd_0) (w := ?_)
    intro m r ⟨hO, hm⟩
    refine qr_const rfl (w := ?_)
    refine qr_iclt rfl (fun hcfffffff => absurd hcfffffff (by omega)) (fun hcfffffff => ?_)
    refine qr_al rfl rfl (w := ?_)
    refine qr_il rfl rfl (w := ?_)
    refine qr_const rfl (w := ?_)
    refine qr_callX rfl (oPath hO) (qrcv1 kd_0) (w := ?_)
    intro m r ⟨hO, hm⟩
    refine qr_const rfl (w := ?_)
    refine qr_icgt rfl (fun hcffffffff => absurd hcffffffff (by omega)) (fun hcffffffff => ?_)
    refine qr_const rfl (w := ?_)
    refine qr_goto rfl (w := ?_)
    refine qW_zreturn rfl (by first | exact Or.inl rfl | exact Or.inr rfl | (simp only [qbi]; split <;> simp)) ?_
    exact ⟨m, r, rfl, rfl, hO⟩
