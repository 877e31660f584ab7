/-! The reference's texts -/
variable {m : Nat → Int → Int} {r : Nat → Int → Option Nat}
theorem mEnd_loop (h : qE r) {s x d lf c : Int} {y : qA} : ∀ (k : Nat) (l : List Int) (m : Nat → Int → Int), qWt m l → l.length + k < 160 → qW m_Mo_writesAll 182 [qK 176, qI s, qI x, qI d, qI lf, qI c, qI ((k : Int) - 1), y] [] (qT0, m, r) (fun _ σ => ∃ m', σ = (qT0, m', r) ∧ qWt m' (l ++ List.replicate k 125) ∧ qG qPw1 m m') := by
  intro k
  induction k with
  | zero =>
    intro l m hT hlen
    refine qr_il rfl rfl (w := ?_)
    refine qr_iflt rfl (fun hc => ?_) (fun hc => absurd hc (by omega))
    refine qW_return rfl ?_
    exact ⟨m, rfl, by rw [List.replicate_zero, List.append_nil]; exact hT, qG_rf⟩
  | succ k ih =>
    intro l m hT hlen
    refine qr_il rfl rfl (w := ?_)
    refine qr_iflt rfl (fun hc => absurd hc (by omega)) (fun hc => ?_)
    refine qr_al rfl rfl (w := ?_)
    refine qr_const rfl (w := ?_)
    refine qr_callV rfl (mWrites h hT (by omega)) (qrcv1 kd_176) (w := fun _ σ hσ => ?_)
    obtain ⟨m1, rfl, hT1, hG1⟩ := hσ
    refine qr_inc6 rfl (by omega) (w := ?_)
    refine qr_goto rfl (w := ?_)
    have ek : ((k + 1 : Nat) : Int) - 1 + -1 = (k : Int) - 1 := by omega
    rw [ek]
    refine qW_mono (ih (l ++ [125]) m1 hT1 (by rw [List.length_append]; simp only [List.length_cons, List.length_nil]; omega)) (fun _ σ hσ => ?_)
    obtain ⟨m2, rfl, hT2, hG2⟩ := hσ
    refine ⟨m2, rfl, ?_, qG_tr hG1 hG2⟩
    rw [List.append_assoc] at hT2
    exact hT2
theorem qClo_all {ps : List (Int × Int)} (t : Int) : ∀ (n : Nat) (u : Int), ∀ c ∈ (qClo ps n u t).1, c = 125 := by
  intro n
  induction n with
  | zero => intro u c hc; simp [qClo] at hc
  | succ n ih =>
    intro u c hc
    simp only [qClo] at hc
    split at hc
    · simp at hc
    · rcases List.mem_cons.mp hc with hc | hc
      · exact hc
      · exact ih _ c hc
theorem qLa_app (l k : List Int) (c : Int) : qAt (l ++ k ++ [c]) ((l ++ k ++ [c]).length - 1) = c := by
  have e : ((l ++ k ++ [c]).length : Int) - 1 = ((l ++ k).length : Nat) := by rw [List.length_append (as := l ++ k)]; simp
  rw [e, qAt_lt (by rw [List.length_append (as := l ++ k)]; simp)]
  simp
theorem qLa_all (l k : List Int) (c : Int) (hk : k ≠ []) (ha : ∀ y ∈ k, y ≠ c) : qAt (l ++ k) ((l ++ k).length - 1) ≠ c := by
  have hl : 0 < k.length := List.length_pos_iff.mpr hk
  have e : ((l ++ k).length : Int) - 1 = ((l.length + (k.length - 1) : Nat) : Int) := by rw [List.length_append]; omega
  rw [e, qAt_lt (by rw [List.length_append]; omega), List.getElem_append_right (by omega)]
  exact ha _ (List.getElem_mem _)
def qNx (a : qAS) (x lf : Int) : List Int := if x = -9 then [] else qNum (qVv a x lf)
/-- the record whose values are written, if any, has them -/
def qXv (a : qAS) (fs : List Int) (x : Int) : Prop := x = -9 ∨ ((0 ≤ x ∧ x < a.2.2.2.length) ∧ ∀ lf : Int, 0 ≤ lf → lf < qLv fs → lf < (qGet a x).2.length ∧ 0 ≤ qVv a x lf ∧ qVv a x lf ≤ 999)
theorem qNum_all {v : Int} (hv : 0 ≤ v ∧ v ≤ 999) : ∀ c ∈ qNum v, c ≠ 123 := by
  intro c hc
  unfold qNum at hc
  rcases List.mem_append.mp hc with hc | hc
  · split at hc
    · rcases List.mem_singleton.mp hc with rfl
      omega
    · simp at hc
  · rcases List.mem_append.mp hc with hc | hc
    · split at hc
      · rcases List.mem_singleton.mp hc with rfl
        omega
      · simp at hc
    · rcases List.mem_singleton.mp hc with rfl
      omega
theorem qNum_nn (v : Int) : qNum v ≠ [] := by
  unfold qNum
  simp
theorem mText_loop (h : qE r) {a : qAS} (hl : qMl a) {s x : Int} (hs : 0 ≤ s ∧ s < a.2.1.length) (hw : qWs a.1 (qGf a.2.1 s)) (hp60 : a.1.length ≤ 60) (hx : qXv a (qGf a.2.1 s) x) : ∀ (k i : Nat) (l : List Int) (d : Nat) (u lf c : Int) (y : qA) (m : Nat → Int → Int), i + k = (qGf a.2.1 s).length → qMb (m 177) a → qWt m l → qSk (m 182) a.1 d u → d ≤ 3 → qNs a.1 ((qGf a.2.1 s).drop i) u → ((c = 1 ∧ qAt l (l.length - 1) = 123) ∨ (c = 0 ∧ qAt l (l.length - 1) ≠ 123)) → 0 ≤ lf → lf + qLv ((qGf a.2.1 s).drop i) = qLv (qGf a.2.1 s) → (qTxt a.1 (qNx a x) ((qGf a.2.1 s).drop i) u lf l).length ≤ 140 →
    qW m_Mo_writesAll 30 [qK 176, qI s, qI x, qI d, qI lf, qI c, qI i, y] [] (qT0, m, r) (fun _ σ => ∃ m', σ = (qT0, m', r) ∧ qWt m' (qTxt a.1 (qNx a x) ((qGf a.2.1 s).drop i) u lf l) ∧ qG qPw m m') := by
  have l3 := hl.2.2.1 s
  intro k
  induction k with
  | zero =>
    intro i l d u lf c y m hik hB hT hk hd hNs hc1 hlf hlv hlen
    have hdr : (qGf a.2.1 s).drop i = [] := qdrop_nil (by omega)
    rw [hdr] at hlen ⊢
    have hll := qTxt_le a.1 (qNx a x) [] u lf l
    have hcl := qSk_clo 3 d u hk hd
    refine qr_il rfl rfl (w := ?_)
    refine qr_al rfl rfl (w := ?_)
    refine qr_il rfl rfl (w := ?_)
    refine qr_callP rfl (mFieldsOf (s := s) h hB hl (by omega)) (qrcv1 kd_176) (w := ?_)
    refine qr_icge rfl (fun hc => ?_) (fun hc => absurd hc (by omega))
    refine qr_il rfl rfl (w := ?_)
    refine qr_is6 rfl (w := ?_)
    have ed : (d : Int) = ((d + 1 : Nat) : Int) - 1 := by omega
    rw [ed]
    refine qW_mono (mEnd_loop h (d + 1) l m hT (by omega)) (fun _ σ hσ => ?_)
    obtain ⟨m1, rfl, hT1, hG1⟩ := hσ
    refine ⟨m1, rfl, ?_, qG_mo hG1 (fun a j e => e.elim Or.inl (fun e => Or.inr (Or.inr e)))⟩
    simp only [qTxt]
    rw [hcl, List.append_assoc, ← List.replicate_succ']
    exact hT1
  | succ k ih =>
    intro i l d u lf c y m hik hB hT hk hd hNs hc1 hlf hlv hlen
    have hil : i < (qGf a.2.1 s).length := by omega
    obtain ⟨f, hf⟩ : ∃ f, f = qAt (qGf a.2.1 s) i := ⟨_, rfl⟩
    have hdr : (qGf a.2.1 s).drop i = f :: (qGf a.2.1 s).drop (i + 1) := by rw [qdrop hil, hf, qAt_lt hil]
    have hfm : f ∈ qGf a.2.1 s := by rw [hf, qAt_lt hil]; exact List.getElem_mem _
    obtain ⟨hf0, hp0, hp1⟩ := hw.2.2.1 f hfm
    have hpm : f % 100 = qPa f := by
      unfold qPa at hp1 ⊢
      split at hp1 <;> split <;> omega
    have hll := qTxt_le a.1 (qNx a x) ((qGf a.2.1 s).drop i) u lf l
    rw [hdr] at hNs hlv hlen hll ⊢
    obtain ⟨n1, n2, n3⟩ := hNs
    have hlv8 := qLv_le (f :: (qGf a.2.1 s).drop (i + 1))
    have hlv9 := qLv_le (qGf a.2.1 s)
    obtain ⟨p, hp⟩ : ∃ p, p = qPa f := ⟨_, rfl⟩
    rw [← hp] at hpm hp0 hp1 n1 n2 n3
    obtain ⟨l1, hl1⟩ : ∃ l1, l1 = l ++ (qClo a.1 3 u (qOu a.1 p)).1 := ⟨_, rfl⟩
    have hE1 : 100 ≤ f → qTxt a.1 (qNx a x) (f :: (qGf a.2.1 s).drop (i + 1)) u lf l = qTxt a.1 (qNx a x) ((qGf a.2.1 s).drop (i + 1)) p lf (qNam a.1 p l1 ++ [123]) := fun e => by
      simp only [qTxt]
      rw [if_pos e, ← hp, ← hl1]
    have hE2 : f < 100 → qTxt a.1 (qNx a x) (f :: (qGf a.2.1 s).drop (i + 1)) u lf l = qTxt a.1 (qNx a x) ((qGf a.2.1 s).drop (i + 1)) (qOu a.1 p) (lf + 1) (qNam a.1 p l1 ++ qNx a x lf) := fun e => by
      simp only [qTxt]
      rw [if_neg (by omega), ← hp, ← hl1, (qClo_n _ 3 u).2 n1]
    have hcn := (qClo_n (ps := a.1) (qOu a.1 p) 3 u).1
    have hl1n : l1.length ≤ l.length + 3 := by rw [hl1, List.length_append]; omega
    have hlst : qAt l1 (l1.length - 1) = 123 ↔ (u = qOu a.1 p ∧ qAt l (l.length - 1) = 123) := by
      by_cases e : u = qOu a.1 p
      · have e2 : (qClo a.1 3 u (qOu a.1 p)).1 = [] := by simp only [qClo]; rw [if_pos e]
        rw [hl1, e2, List.append_nil]
        exact ⟨fun g => ⟨e, g⟩, fun g => g.2⟩
      · have e2 : (qClo a.1 3 u (qOu a.1 p)).1 ≠ [] := by simp only [qClo]; rw [if_neg e]; exact List.cons_ne_nil _ _
        constructor
        · intro g
          rw [hl1] at g
          exact absurd g (qLa_all _ _ _ e2 (fun c hc => by have := qClo_all _ _ _ c hc; omega))
        · intro g
          exact absurd g.1 e
    have K93 : ∀ (m2 : Nat → Int → Int) (d1 : Nat) (c2 : Int), qMb (m2 177) a → qWt m2 (l1 ++ (if qAt l1 (l1.length - 1) = 123 then [] else [44])) → qSk (m2 182) a.1 d1 (qOu a.1 p) → d1 ≤ 3 → qG qPw m m2 → qW m_Mo_writesAll 93 [qK 176, qI s, qI x, qI d1, qI lf, qI c2, qI i, qI p] [] (qT0, m2, r) (fun _ σ => ∃ m', σ = (qT0, m', r) ∧ qWt m' (qTxt a.1 (qNx a x) (f :: (qGf a.2.1 s).drop (i + 1)) u lf l) ∧ qG qPw m m') := by
      intro m2 d1 c2 hB2 hT2 hk2 hd2 hG2
      have hcm : (l1 ++ (if qAt l1 (l1.length - 1) = 123 then [] else [44])).length ≤ l.length + 4 := by
        rw [List.length_append]
        split <;> simp only [List.length_cons, List.length_nil] <;> omega
      have hqn : l1 ++ (if qAt l1 (l1.length - 1) = 123 then [] else [44]) ++ [qLe a.1 p] ++ [58] = qNam a.1 p l1 := by
        unfold qNam
        simp only [List.append_assoc, List.cons_append, List.nil_append]
      have hqnl : (qNam a.1 p l1).length ≤ l.length + 6 := by
        rw [← hqn, List.length_append, List.length_append]
        simp only [List.length_cons, List.length_nil]
        omega
      refine qr_al rfl rfl (w := ?_)
      refine qr_al rfl rfl (w := ?_)
      refine qr_il rfl rfl (w := ?_)
      refine qr_callP rfl (mLetterOf (p := p) h hB2 hl ⟨hp0, hp1⟩) (qrcv1 kd_176) (w := ?_)
      refine qr_callV rfl (mWrites h hT2 (by omega)) (qrcv1 kd_176) (w := fun _ σ hσ => ?_)
      obtain ⟨m3, rfl, hT3, hG3⟩ := hσ
      refine qr_al rfl rfl (w := ?_)
      refine qr_const rfl (w := ?_)
      refine qr_callV rfl (mWrites h hT3 (by rw [List.length_append]; simp only [List.length_cons, List.length_nil]; omega)) (qrcv1 kd_176) (w := fun _ σ hσ => ?_)
      obtain ⟨m4, rfl, hT4, hG4⟩ := hσ
      rw [hqn] at hT4
      have e177 : m4 177 = m2 177 := qGw (qG_tr hG3 hG4) (by decide)
      have e182 : m4 182 = m2 182 := qGw (qG_tr hG3 hG4) (by decide)
      have hB4 : qMb (m4 177) a := e177.symm ▸ hB2
      have hk4 : qSk (m4 182) a.1 d1 (qOu a.1 p) := e182.symm ▸ hk2
      have hG24 : qG qPw m m4 := qG_tr hG2 (qG_mo (qG_tr hG3 hG4) (fun a j e => e.elim Or.inl (fun e => Or.inr (Or.inr e))))
      refine qr_al rfl rfl (w := ?_)
      refine qr_il rfl rfl (w := ?_)
      refine qr_il rfl rfl (w := ?_)
      refine qr_callP rfl (mFieldOf (s := s) (k := i) h hB4 hl hs (by omega)) (qrcv1 kd_176) (w := ?_)
      rw [← hf]
      refine qr_const rfl (w := ?_)
      refine qr_iclt rfl (fun hc => ?_) (fun hc => ?_)
      · refine qr_const rfl (w := ?_)
        refine qr_is5 rfl (w := ?_)
        refine qr_il rfl rfl (w := ?_)
        refine qr_ifeq rfl (fun hc => ?_) (fun hc => absurd hc (by omega))
        refine qr_il rfl rfl (w := ?_)
        refine qr_const rfl (w := ?_)
        refine qr_iceq rfl (fun hct => ?_) (fun hct => ?_)
        · refine qr_inc4 rfl (by omega) (w := ?_)
          refine qr_inc6 rfl (by omega) (w := ?_)
          refine qr_goto rfl (w := ?_)
          rw [hE2 (by omega)] at hlen ⊢
          have hlv2 : qLv (f :: (qGf a.2.1 s).drop (i + 1)) = 1 + qLv ((qGf a.2.1 s).drop (i + 1)) := by simp only [qLv]; rw [if_pos (by omega)]
          rw [if_neg (by omega)] at n3
          have hlv0 := qLv_le ((qGf a.2.1 s).drop (i + 1))
          have hnx : qNx a x lf = [] := by unfold qNx; rw [if_pos (by omega)]
          rw [hnx, List.append_nil] at hlen ⊢
          refine qW_mono (ih (i + 1) (qNam a.1 p l1) d1 (qOu a.1 p) (lf + 1) 0 (qI p) m4 (by omega) hB4 hT4 hk4 hd2 n3 (Or.inr ⟨rfl, ?_⟩) (by omega) (by omega) hlen) (fun _ σ hσ => ?_)
          · rw [← hqn, qLa_app]
            decide
          · obtain ⟨m7, rfl, hT7, hG7⟩ := hσ
            exact ⟨m7, rfl, hT7, qG_tr hG24 hG7⟩
        · refine qr_al rfl rfl (w := ?_)
          refine qr_al rfl rfl (w := ?_)
          refine qr_il rfl rfl (w := ?_)
          refine qr_il rfl rfl (w := ?_)
          have hlv3 : qLv (f :: (qGf a.2.1 s).drop (i + 1)) = 1 + qLv ((qGf a.2.1 s).drop (i + 1)) := by simp only [qLv]; rw [if_pos (by omega)]
          have hlv4 := qLv_le ((qGf a.2.1 s).drop (i + 1))
          have hx2 := hx.resolve_left (by omega)
          have hx3 := hx2.2 lf hlf (by omega)
          refine qr_callP rfl (mValueOf (i := x) (j := lf) h hB4 hl hx2.1 ⟨hlf, hx3.1⟩) (qrcv1 kd_176) (w := ?_)
          refine qr_callV rfl (mWritesValue h hx3.2 hT4 (by omega)) (qrcv1 kd_176) (w := fun _ σ hσ => ?_)
          obtain ⟨m5, rfl, hT5, hG5⟩ := hσ
          have e177b : m5 177 = m4 177 := qGw hG5 (by decide)
          have e182b : m5 182 = m4 182 := qGw hG5 (by decide)
          refine qr_inc4 rfl (by omega) (w := ?_)
          refine qr_inc6 rfl (by omega) (w := ?_)
          refine qr_goto rfl (w := ?_)
          rw [hE2 (by omega)] at hlen ⊢
          have hlv2 : qLv (f :: (qGf a.2.1 s).drop (i + 1)) = 1 + qLv ((qGf a.2.1 s).drop (i + 1)) := by simp only [qLv]; rw [if_pos (by omega)]
          rw [if_neg (by omega)] at n3
          have hlv0 := qLv_le ((qGf a.2.1 s).drop (i + 1))
          have hnx : qNx a x lf = qNum (qVv a x lf) := by unfold qNx; rw [if_neg (by omega)]
          rw [hnx] at hlen ⊢
          refine qW_mono (ih (i + 1) (qNam a.1 p l1 ++ qNum (qVv a x lf)) d1 (qOu a.1 p) (lf + 1) 0 (qI p) m5 (by omega) (e177b.symm ▸ hB4) hT5 (e182b.symm ▸ hk4) hd2 n3 (Or.inr ⟨rfl, ?_⟩) (by omega) (by omega) hlen) (fun _ σ hσ => ?_)
          · exact qLa_all _ _ _ (qNum_nn _) (qNum_all hx3.2)
          · obtain ⟨m7, rfl, hT7, hG7⟩ := hσ
            exact ⟨m7, rfl, hT7, qG_tr (qG_tr hG24 (qG_mo hG5 (fun a j e => e.elim Or.inl (fun e => Or.inr (Or.inr e))))) hG7⟩
      · refine qr_const rfl (w := ?_)
        refine qr_goto rfl (w := ?_)
        refine qr_is5 rfl (w := ?_)
        refine qr_il rfl rfl (w := ?_)
        refine qr_ifeq rfl (fun hc => absurd hc (by omega)) (fun hc => ?_)
        refine qr_al rfl rfl (w := ?_)
        refine qr_const rfl (w := ?_)
        refine qr_callV rfl (mWrites h hT4 (by omega)) (qrcv1 kd_176) (w := fun _ σ hσ => ?_)
        obtain ⟨m5, rfl, hT5, hG5⟩ := hσ
        have e177b : m5 177 = m4 177 := qGw hG5 (by decide)
        have e182b : m5 182 = m4 182 := qGw hG5 (by decide)
        refine qr_inc3 rfl (by omega) (w := ?_)
        refine qr_al rfl rfl (w := ?_)
        refine qr_gr rfl kd_176 (hr := (rf_8_8 h)) (w := ?_)
        refine qr_il rfl rfl (w := ?_)
        refine qr_il rfl rfl (w := ?_)
        refine qr_ias rfl kd_182 (by omega) (w := ?_)
        refine qr_goto rfl (w := ?_)
        refine qr_inc6 rfl (by omega) (w := ?_)
        refine qr_goto rfl (w := ?_)
        rw [hE1 (by omega)] at hlen ⊢
        have up : qG qPw m5 (qup m5 182 ((d1 : Int) + 1) p) := qG_up (Or.inr (Or.inl rfl))
        have hk6 : qSk ((qup m5 182 ((d1 : Int) + 1) p) 182) a.1 (d1 + 1) p := ⟨⟨hp0, hp1⟩, qup_s, qSk_eq hk4 (fun j h0 h1 => by rw [qup_i (by omega), e182b])⟩
        have hd6 := qSk_dp 3 (d1 + 1) p hk6 (n2 (by omega))
        have hlv2 : qLv (f :: (qGf a.2.1 s).drop (i + 1)) = qLv ((qGf a.2.1 s).drop (i + 1)) := by simp only [qLv]; rw [if_neg (by omega), Int.zero_add]
        rw [if_pos (by omega)] at n3
        refine qW_mono (ih (i + 1) (qNam a.1 p l1 ++ [123]) (d1 + 1) p lf 1 (qI p) _ (by omega) ?_ ?_ hk6 hd6 n3 (Or.inl ⟨rfl, ?_⟩) hlf (by omega) hlen) (fun _ σ hσ => ?_)
        · rw [show qup m5 182 ((d1 : Int) + 1) p 177 = m5 177 from funext (fun j => qup_z (by decide)), e177b]
          exact hB4
        · exact ⟨(qup_z (by decide)).trans hT5.1, fun k hk => (qup_z (by decide)).trans (hT5.2 k hk)⟩
        · have := qLa_app (qNam a.1 p l1) [] 123
          rw [List.append_nil] at this
          exact this
        · obtain ⟨m7, rfl, hT7, hG7⟩ := hσ
          exact ⟨m7, rfl, hT7, qG_tr (qG_tr hG24 (qG_tr (qG_mo hG5 (fun a j e => e.elim Or.inl (fun e => Or.inr (Or.inr e)))) up)) hG7⟩
    refine qr_il rfl rfl (w := ?_)
    refine qr_al rfl rfl (w := ?_)
    refine qr_il rfl rfl (w := ?_)
    refine qr_callP rfl (mFieldsOf (s := s) h hB hl hs) (qrcv1 kd_176) (w := ?_)
    refine qr_icge rfl (fun hc => absurd hc (by omega)) (fun hc => ?_)
    refine qr_al rfl rfl (w := ?_)
    refine qr_il rfl rfl (w := ?_)
    refine qr_il rfl rfl (w := ?_)
    refine qr_callP rfl (mFieldOf (s := s) (k := i) h hB hl hs (by omega)) (qrcv1 kd_176) (w := ?_)
    rw [← hf]
    refine qr_const rfl (w := ?_)
    refine qr_rem rfl (by omega) (w := ?_)
    rw [hpm]
    refine qr_is7 rfl (w := ?_)
    refine mClose_loop h hl ⟨hp0, hp1⟩ rfl 3 u d c l m n1 hB hk (by omega) hT (by omega) (fun m1 d1 c1 hk1 hd1 hc2 hT1 hG1 => ?_)
    rw [← hl1] at hT1
    have e177 : m1 177 = m 177 := qGw hG1 (by decide)
    have hB1 : qMb (m1 177) a := e177.symm ▸ hB
    have hG1' : qG qPw m m1 := qG_mo hG1 (fun a j e => e.elim Or.inl (fun e => Or.inr (Or.inr e)))
    by_cases e9 : qAt l1 (l1.length - 1) = 123
    · have hq := hlst.mp e9
      rw [if_pos hq.1] at hc2
      have e1 : c1 = 1 := by omega
      subst e1
      refine qr_il rfl rfl (w := ?_)
      refine qr_ifne rfl (fun _ => ?_) (fun e => absurd e (by decide))
      exact K93 m1 d1 1 hB1 (by rw [if_pos e9, List.append_nil]; exact hT1) hk1 (by omega) hG1'
    · have e1 : c1 = 0 := by
        by_cases hu : u = qOu a.1 p
        · rw [if_pos hu] at hc2
          have : ¬ qAt l (l.length - 1) = 123 := fun g => e9 (hlst.mpr ⟨hu, g⟩)
          omega
        · rw [if_neg hu] at hc2
          exact hc2
      subst e1
      refine qr_il rfl rfl (w := ?_)
      refine qr_ifne rfl (fun e => absurd rfl e) (fun _ => ?_)
      refine qr_al rfl rfl (w := ?_)
      refine qr_const rfl (w := ?_)
      refine qr_callV rfl (mWrites h hT1 (by omega)) (qrcv1 kd_176) (w := fun _ σ hσ => ?_)
      obtain ⟨m2, rfl, hT2, hG2⟩ := hσ
      have e177b : m2 177 = m1 177 := qGw hG2 (by decide)
      have e182b : m2 182 = m1 182 := qGw hG2 (by decide)
      exact K93 m2 d1 0 (e177b.symm ▸ hB1) (by rw [if_neg e9]; exact hT2) (e182b.symm ▸ hk1) (by omega) (qG_tr hG1' (qG_mo hG2 (fun a j e => e.elim Or.inl (fun e => Or.inr (Or.inr e)))))
theorem mWritesAll (h : qE r) {a : qAS} (hB : qMb (m 177) a) (hl : qMl a) {s x : Int} (hs : 0 ≤ s ∧ s < a.2.1.length) (hw : qWs a.1 (qGf a.2.1 s)) (hp60 : a.1.length ≤ 60) (hx : qXv a (qGf a.2.1 s) x) (hlen : (qText a.1 (qNx a x) (qGf a.2.1 s)).length ≤ 140) : qW m_Mo_writesAll 0 [qK 176, qI s, qI x, none, none, none, none, none] [] (qT0, m, r) (fun _ σ => ∃ m', σ = (qT0, m', r) ∧ qWt m' (qText a.1 (qNx a x) (qGf a.2.1 s)) ∧ qG qPw m m') := by
  have hT0 : qWt (qup (qup m 176 7 0) 182 0 (-9)) [] := ⟨(qup_z (by decide)).trans qup_s, fun k hk => by simp at hk⟩
  have hG0 : qG qPw m (qup (qup m 176 7 0) 182 0 (-9)) := qG_tr (qG_up (Or.inr (Or.inr ⟨rfl, rfl⟩))) (qG_up (Or.inr (Or.inl rfl)))
  refine qr_al rfl rfl (w := ?_)
  refine qr_const rfl (w := ?_)
  refine qr_pi rfl kd_176 (w := ?_)
  refine qr_const rfl (w := ?_)
  refine qr_is3 rfl (w := ?_)
  refine qr_al rfl rfl (w := ?_)
  refine qr_gr rfl kd_176 (hr := (rf_8_8 h)) (w := ?_)
  refine qr_const rfl (w := ?_)
  refine qr_const rfl (w := ?_)
  refine qr_ias rfl kd_182 (by omega) (w := ?_)
  refine qr_const rfl (w := ?_)
  refine qr_is4 rfl (w := ?_)
  refine qr_const rfl (w := ?_)
  refine qr_is5 rfl (w := ?_)
  refine qr_al rfl rfl (w := ?_)
  refine qr_const rfl (w := ?_)
  refine qr_callV rfl (mWrites h hT0 (by decide)) (qrcv1 kd_176) (w := fun _ σ hσ => ?_)
  obtain ⟨m1, rfl, hT1, hG1⟩ := hσ
  have e177 : m1 177 = m 177 := (qGw hG1 (by decide)).trans (qG_row hG0 (fun j e => by rcases e with e | e | e <;> omega))
  have e182 : m1 182 = (qup (qup m 176 7 0) 182 0 (-9)) 182 := qGw hG1 (by decide)
  have hG01 : qG qPw m m1 := qG_tr hG0 (qG_mo hG1 (fun a j e => e.elim Or.inl (fun e => Or.inr (Or.inr e))))
  refine qr_const rfl (w := ?_)
  refine qr_is6 rfl (w := ?_)
  unfold qText at hlen ⊢
  refine qW_mono (mText_loop h hl hs hw hp60 hx (qGf a.2.1 s).length 0 [123] 0 (-9) 0 1 none m1 (by omega) (e177.symm ▸ hB) hT1 ⟨rfl, by rw [e182]; exact qup_s⟩ (by decide) hw.2.2.2.1 (Or.inl ⟨rfl, by decide⟩) (Int.le_refl _) (by rw [List.drop_zero, Int.zero_add]) hlen) (fun _ σ hσ => ?_)
  obtain ⟨m2, rfl, hT2, hG2⟩ := hσ
  exact ⟨m2, rfl, hT2, qG_tr hG01 hG2⟩
