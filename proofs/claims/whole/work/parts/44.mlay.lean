/-! The reference lays its paths -/
variable {m : Nat → Int → Int} {r : Nat → Int → Option Nat}
theorem qLo_at {ps : List (Int × Int)} {i : Nat} (h : i < ps.length) : qLe ps i = ps[i].1 ∧ qOu ps i = ps[i].2 := ⟨qLe_at h, qOu_at h⟩
theorem mPathWith_loop (h : qE r) {a : qAS} (hB : qMb (m 177) a) (hl : qMl a) {l u : Int} : ∀ (n p : Nat), p + n = a.1.length → qP2 m_Mo_pathWith 2 [qK 176, qI l, qI u, qI p] (qT0, m, r) (qI (if qFi (a.1.drop p) l u p < a.1.length then (qFi (a.1.drop p) l u p : Nat) else -9)) := by
  obtain ⟨⟨b0, b1, b2, b3⟩, bp, bs, br⟩ := id hB
  obtain ⟨l1, l2, l3, l4, l5⟩ := id hl
  have hrl := qRs_len a
  intro n
  induction n with
  | zero =>
    intro p hp
    have e : a.1.drop p = [] := by rw [List.drop_eq_nil_iff]; omega
    rw [e]
    have e0 : qFi ([] : List (Int × Int)) l u p = p := rfl
    have e1 : ¬ (p < a.1.length) := by omega
    rw [e0, if_neg e1]
    unfold qP2
    refine qr_il rfl rfl (w := ?_)
    refine qr_al rfl rfl (w := ?_)
    refine qr_gr rfl kd_176 (hr := (rf_8_0 h)) (w := ?_)
    refine qr_const rfl (w := ?_)
    refine qr_ia rfl kd_177 (by omega) (w := ?_)
    refine qr_icge rfl (fun hc => ?_) (fun hc => absurd hc (by omega))
    refine qr_const rfl (w := ?_)
    refine qW_ireturn rfl ?_
    exact ⟨rfl, rfl⟩
  | succ n ih =>
    intro p hp
    have hpl : p < a.1.length := by omega
    have hlo := qLo_at hpl
    have h1 := ih (p + 1) (by omega)
    have hE : ∀ (x : Nat), qFi (a.1.drop p) l u p = x → x = x := fun _ _ => rfl
    have hd := qdrop2 hpl
    unfold qP2
    refine qr_il rfl rfl (w := ?_)
    refine qr_al rfl rfl (w := ?_)
    refine qr_gr rfl kd_176 (hr := (rf_8_0 h)) (w := ?_)
    refine qr_const rfl (w := ?_)
    refine qr_ia rfl kd_177 (by omega) (w := ?_)
    refine qr_icge rfl (fun hc => absurd hc (by omega)) (fun hc => ?_)
    refine qr_al rfl rfl (w := ?_)
    refine qr_il rfl rfl (w := ?_)
    refine qr_callP rfl (mLetterOf (p := p) h hB hl (by omega)) (qrcv1 kd_176) (w := ?_)
    refine qr_il rfl rfl (w := ?_)
    refine qr_icne rfl (fun hcf => ?_) (fun hcf => ?_)
    · refine qr_inc3 rfl (by omega) (w := ?_)
      refine qr_goto rfl (w := ?_)
      have e : qFi (a.1.drop p) l u p = qFi (a.1.drop (p + 1)) l u (p + 1) := by
        rw [hd]
        simp only [qFi]
        rw [if_neg (fun g => by omega)]
      rw [e]
      exact h1
    · refine qr_al rfl rfl (w := ?_)
      refine qr_il rfl rfl (w := ?_)
      refine qr_callP rfl (mInnerOf (p := p) h hB hl (by omega)) (qrcv1 kd_176) (w := ?_)
      refine qr_il rfl rfl (w := ?_)
      refine qr_icne rfl (fun hcff => ?_) (fun hcff => ?_)
      · refine qr_inc3 rfl (by omega) (w := ?_)
        refine qr_goto rfl (w := ?_)
        have e : qFi (a.1.drop p) l u p = qFi (a.1.drop (p + 1)) l u (p + 1) := by
          rw [hd]
          simp only [qFi]
          rw [if_neg (fun g => by omega)]
        rw [e]
        exact h1
      · refine qr_il rfl rfl (w := ?_)
        refine qW_ireturn rfl ?_
        have e : qFi (a.1.drop p) l u p = p := by
          rw [hd]
          simp only [qFi]
          rw [if_pos ⟨by omega, by omega⟩]
        refine ⟨congrArg qI ?_, rfl⟩
        rw [e, if_pos hpl]
theorem mPathWith (h : qE r) {a : qAS} (hB : qMb (m 177) a) (hl : qMl a) {l u : Int} : qP m_Mo_pathWith [qK 176, qI l, qI u, none] (qT0, m, r) (qI (if qFi a.1 l u 0 < a.1.length then (qFi a.1 l u 0 : Nat) else -9)) := by
  refine qr_const rfl (w := ?_)
  refine qr_is3 rfl (w := ?_)
  exact mPathWith_loop h hB hl a.1.length 0 (by omega)
def qPp (a : qAS) (ps : List (Int × Int)) : qAS := (ps, a.2.1, a.2.2.1, a.2.2.2)
theorem qFi_take {P : List (Int × Int)} (hn : P.Nodup) {f n : Nat} (hf : f < P.length) (hn2 : n ≤ P.length) : qFi (P.take n) (qLe P f) (qOu P f) 0 = if f < n then f else n := by
  have hlo := qLo_at hf
  have hle := qFi_le (P.take n) (qLe P f) (qOu P f) 0
  have hlen : (P.take n).length = n := by rw [List.length_take]; omega
  have hat : ∀ (hlt : qFi (P.take n) (qLe P f) (qOu P f) 0 < n), qFi (P.take n) (qLe P f) (qOu P f) 0 = f := fun hlt => by
    have h1 := qFi_at (qLe P f) (qOu P f) (P.take n) 0 (by omega)
    have h1 : (P.take n).getD (qFi (P.take n) (qLe P f) (qOu P f) 0) (0, 0) = (qLe P f, qOu P f) := h1
    rw [List.getD_eq_getElem?_getD, List.getElem?_take, if_pos hlt, List.getElem?_eq_getElem (by omega)] at h1
    refine qNd_inj hn (by omega) hf ?_
    have h2 : P[qFi (P.take n) (qLe P f) (qOu P f) 0]'(by omega) = (qLe P f, qOu P f) := h1
    rw [h2, hlo.1, hlo.2]
  by_cases hfn : f < n
  · rw [if_pos hfn]
    have hlt : qFi (P.take n) (qLe P f) (qOu P f) 0 < n := by
      by_cases hlt : qFi (P.take n) (qLe P f) (qOu P f) 0 < n
      · exact hlt
      · exfalso
        have hmem : (qLe P f, qOu P f) ∈ P.take n := by
          rw [hlo.1, hlo.2]
          have e : (P.take n)[f]'(by omega) = P[f] := List.getElem_take
          exact e ▸ List.getElem_mem _
        have hn3 := qAd_nd (l := qLe P f) (u := qOu P f) (hn.sublist (List.take_sublist n P))
        unfold qAd at hn3
        rw [if_neg (by omega)] at hn3
        exact (List.nodup_append.mp hn3).2.2 _ hmem _ (List.mem_singleton.mpr rfl) rfl
    exact hat hlt
  · rw [if_neg hfn]
    by_cases hlt : qFi (P.take n) (qLe P f) (qOu P f) 0 < n
    · have := hat hlt
      omega
    · omega
theorem qTake_le (P : List (Int × Int)) (n : Nat) : P.take n <+: P := List.take_prefix n P
theorem qMb_pn {g g' : Int → Int} {a : qAS} {P : List (Int × Int)} {n : Nat} (hB : qMb g (qPp a (P.take n))) (hl : qMl (qPp a (P.take n))) (hn : n < P.length) (h60 : n < 60) (h0 : ∀ j : Int, 0 ≤ j → j < 1294 → j ≠ 1 → j ≠ 4 + 2 * n → j ≠ 4 + 2 * n + 1 → g' j = g j) (h1 : g' 1 = n + 1) (hx : g' (4 + 2 * n) = qLe P n) (hy : g' (4 + 2 * n + 1) = qOu P n) : qMb g' (qPp a (P.take (n + 1))) := by
  obtain ⟨⟨b0, b1, b2, b3⟩, bp, bs, br⟩ := hB
  obtain ⟨l1, l2, l3, l4, l5⟩ := hl
  have hlen : (P.take n).length = n := by rw [List.length_take]; omega
  have hlen2 : (P.take (n + 1)).length = n + 1 := by rw [List.length_take]; omega
  have l2' : a.2.1.length ≤ 40 := l2
  have l4' : a.2.2.2.length ≤ 30 := l4
  refine ⟨⟨?_, ?_, ?_, ?_⟩, fun p g0 g1 => ?_, fun s g0 g1 => ⟨?_, fun k k0 k1 => ?_⟩, fun k g0 g1 => ⟨?_, fun j k0 k1 => ?_⟩⟩
  · rw [h0 _ (by omega) (by omega) (by omega) (by omega) (by omega)]; exact b0
  · rw [h1]; show _ = ((P.take (n + 1)).length : Int); rw [hlen2]; rfl
  · rw [h0 _ (by omega) (by omega) (by omega) (by omega) (by omega)]; exact b2
  · rw [h0 _ (by omega) (by omega) (by omega) (by omega) (by omega)]; exact b3
  · have g1' : p < ((P.take (n + 1)).length : Nat) := g1
    rw [hlen2] at g1'
    show g' (4 + 2 * p) = qLe (P.take (n + 1)) p ∧ g' (4 + 2 * p + 1) = qOu (P.take (n + 1)) p
    rw [← qLe_pre (qTake_le P (n + 1)) (by rw [hlen2]; omega), ← qOu_pre (qTake_le P (n + 1)) (by rw [hlen2]; omega)]
    by_cases e : p = n
    · rw [e]
      exact ⟨hx, hy⟩
    · have hb := bp p g0 (by show p < ((P.take n).length : Nat); rw [hlen]; omega)
      have hb : g (4 + 2 * p) = qLe (P.take n) p ∧ g (4 + 2 * p + 1) = qOu (P.take n) p := hb
      rw [← qLe_pre (qTake_le P n) (by rw [hlen]; omega), ← qOu_pre (qTake_le P n) (by rw [hlen]; omega)] at hb
      rw [h0 _ (by omega) (by omega) (by omega) (by omega) (by omega), h0 _ (by omega) (by omega) (by omega) (by omega) (by omega)]
      exact hb
  · have g1' : s < a.2.1.length := g1
    rw [h0 _ (by omega) (by omega) (by omega) (by omega) (by omega)]; exact (bs s g0 g1).1
  · have g1' : s < a.2.1.length := g1
    have k1' : k < (qGf a.2.1 s).length := k1
    have := l3 s
    have : (qGf a.2.1 s).length ≤ 20 := this
    rw [h0 _ (by omega) (by omega) (by omega) (by omega) (by omega)]; exact (bs s g0 g1).2 k k0 k1
  · have g1' : k < a.2.2.2.length := g1
    rw [h0 _ (by omega) (by omega) (by omega) (by omega) (by omega)]; exact (br k g0 g1).1
  · have g1' : k < a.2.2.2.length := g1
    have k1' : j < (qGet a k).2.length := k1
    have := l5 k
    have : (qGet a k).2.length ≤ 10 := this
    rw [h0 _ (by omega) (by omega) (by omega) (by omega) (by omega)]; exact (br k g0 g1).2 j k0 k1
