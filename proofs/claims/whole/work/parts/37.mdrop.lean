/-! The reference's drop -/
variable {m : Nat → Int → Int} {r : Nat → Int → Option Nat}
theorem qRc_set2 (a : qAS) (i : Nat) (e1 e2 : Int × List Int) : qRc (qRc a (a.2.2.2.set i e1)) ((qRc a (a.2.2.2.set i e1)).2.2.2.set i e2) = qRc a (a.2.2.2.set i e2) := by
  show (a.1, a.2.1, a.2.2.1, (a.2.2.2.set i e1).set i e2) = (a.1, a.2.1, a.2.2.1, a.2.2.2.set i e2)
  rw [List.set_set]
theorem qRes_le (ps : List (Int × Int)) (d : Int) (fs : List Int) : (qRes ps d fs).length ≤ fs.length := List.length_filter_le _ _
theorem qDl_le (ps : List (Int × Int)) (d : Int) : ∀ (fs V : List Int), ((qDl ps d fs V).length : Int) ≤ qLv fs := by
  intro fs
  induction fs with
  | nil => intro V; simp [qDl, qLv]
  | cons f t ih =>
    intro V
    simp only [qDl, qLv]
    split
    · rw [if_neg (by omega), Int.zero_add]
      exact ih V
    · have := ih V.tail
      have e : (if f < 100 then (1 : Int) else 0) = 1 := if_pos (by omega)
      rw [e, List.length_append]
      split <;> simp only [List.length_cons, List.length_nil] <;> omega
theorem qRes_cons (ps : List (Int × Int)) (d f : Int) (t : List Int) : qRes ps d (f :: t) = (if qWi ps 4 (qPa f) d = true then [] else [f]) ++ qRes ps d t := by
  unfold qRes
  rw [List.filter_cons]
  by_cases h : qWi ps 4 (qPa f) d = true
  · rw [if_pos h, h]
    rfl
  · rw [if_neg h]
    have h2 : qWi ps 4 (qPa f) d = false := by
      cases hq : qWi ps 4 (qPa f) d
      · rfl
      · exact absurd hq h
    rw [h2]
    rfl
theorem qTake_set {V : List Int} {k : Nat} {x : Int} (hk : k < V.length) : (V.set k x).take k = V.take k ∧ (V.set k x).take (k + 1) = V.take k ++ [x] := by
  constructor
  · rw [List.take_set, List.set_eq_of_length_le (by rw [List.length_take]; omega)]
  · rw [List.take_add_one, List.getElem?_set_self hk, List.take_set, List.set_eq_of_length_le (by rw [List.length_take]; omega)]
    rfl
theorem qgetD_set {V : List Int} {k j : Nat} {x : Int} (hk : k < V.length) : (V.set k x).getD j 0 = if j = k then x else V.getD j 0 := by
  rw [List.getD_eq_getElem?_getD]
  by_cases e : j = k
  · subst e
    rw [if_pos rfl, List.getElem?_set_self hk]
    rfl
  · rw [if_neg e, List.getElem?_set_ne (by omega), ← List.getD_eq_getElem?_getD]
theorem qRo_add {R : List Int} {f : Int} (h : qRo m R) : qRo (qup (qup m 187 R.length f) 176 18 (R.length + 1)) (R ++ [f]) := by
  refine ⟨by rw [qup_s, List.length_append]; rfl, fun k h0 h1 => ?_⟩
  rw [List.length_append] at h1
  simp only [List.length_cons, List.length_nil] at h1
  obtain ⟨k, rfl⟩ : ∃ y : Nat, k = y := ⟨k.toNat, by omega⟩
  rw [qup_z (by decide), qAt_lt (by rw [List.length_append]; simp only [List.length_cons, List.length_nil]; omega)]
  by_cases hk : k < R.length
  · rw [qup_i (by omega), List.getElem_append_left hk, ← qAt_lt hk]
    exact h.2 k h0 (by omega)
  · have e : k = R.length := by omega
    subst e
    rw [qup_s, List.getElem_append_right (Nat.le_refl _)]
    simp
abbrev qPd : Nat → Int → Prop := fun z j => z = 177 ∨ z = 187 ∨ (z = 176 ∧ j = 18)
theorem mDrop_loop (h : qE r) {a : qAS} (hl : qMl a) (hP : qPth a.1) {i : Nat} (hi : i < a.2.2.2.length) {x p hd : Int} (hp : 0 ≤ p) (hhd : 0 ≤ hd ∧ hd < a.2.1.length) {V : List Int} (hV10 : V.length ≤ 10) (hfs : ∀ f ∈ qGf a.2.1 hd, (0 ≤ f ∧ 0 ≤ qPa f ∧ qPa f < a.1.length) ∧ qDp a.1 4 (qPa f)) (hp60 : a.1.length ≤ 60) {Q : qA → qM → Prop} :
    ∀ (n k leaf : Nat) (B R V' : List Int) (y7 y8 : qA) (m : Nat → Int → Int), k + n = (qGf a.2.1 hd).length → qMb (m 177) (qRc a (a.2.2.2.set i (x, V'))) → V'.length = V.length → V'.take B.length = B → B.length ≤ leaf → (∀ j : Nat, leaf ≤ j → V'.getD j 0 = V.getD j 0) → (leaf : Int) + qLv ((qGf a.2.1 hd).drop k) = V.length → qRo m R → R.length ≤ k →
      (∀ (m' : Nat → Int → Int) (leaf' : Nat) (V'' : List Int) (y7 y8 : qA), qMb (m' 177) (qRc a (a.2.2.2.set i (x, V''))) → V''.length = V.length → V''.take (B ++ qDl a.1 p ((qGf a.2.1 hd).drop k) (V.drop leaf)).length = B ++ qDl a.1 p ((qGf a.2.1 hd).drop k) (V.drop leaf) → qRo m' (R ++ qRes a.1 p ((qGf a.2.1 hd).drop k)) → qG qPd m m' → qW m_Mo_drop 195 [qK 176, qI i, qI p, qI hd, qI leaf', qI ((B ++ qDl a.1 p ((qGf a.2.1 hd).drop k) (V.drop leaf)).length : Nat), qI (qGf a.2.1 hd).length, y7, y8] [] (qT0, m', r) Q) →
      qW m_Mo_drop 74 [qK 176, qI i, qI p, qI hd, qI leaf, qI B.length, qI k, y7, y8] [] (qT0, m, r) Q := by
  have l3 := hl.2.2.1 hd
  have l4 := hl.2.2.2.1
  intro n
  induction n with
  | zero =>
    intro k leaf B R V' y7 y8 m hk hB hVl hVB hBl hVj hlv hR hRk K
    have ek : (qGf a.2.1 hd).drop k = [] := qdrop_nil (by omega)
    have ek2 : k = (qGf a.2.1 hd).length := by omega
    rw [ek] at K
    simp only [qDl, qRes, List.filter_nil, List.append_nil] at K
    subst ek2
    have hl' := qMl_rec (x := x) hl hi (V := V') (by omega)
    refine qr_il rfl rfl (w := ?_)
    refine qr_al rfl rfl (w := ?_)
    refine qr_il rfl rfl (w := ?_)
    refine qr_callP rfl (mFieldsOf (s := hd) h hB hl' hhd) (qrcv1 kd_176) (w := ?_)
    show qW m_Mo_drop 81 _ (qI (qGf a.2.1 hd).length :: List.drop _ _) (qT0, m, r) Q
    refine qr_icge rfl (fun hc => ?_) (fun hc => absurd hc (by omega))
    exact K m leaf V' y7 y8 hB hVl hVB hR qG_rf
  | succ n ih =>
    intro k leaf B R V' y7 y8 m hk hB hVl hVB hBl hVj hlv hR hRk K
    have hl' := qMl_rec (x := x) hl hi (V := V') (by omega)
    have hkl : k < (qGf a.2.1 hd).length := by omega
    obtain ⟨f, hf⟩ : ∃ f, f = qAt (qGf a.2.1 hd) k := ⟨_, rfl⟩
    have hdr : (qGf a.2.1 hd).drop k = f :: (qGf a.2.1 hd).drop (k + 1) := by rw [qdrop hkl, hf, qAt_lt hkl]
    have hfm : f ∈ qGf a.2.1 hd := by rw [hf, qAt_lt hkl]; exact List.getElem_mem _
    obtain ⟨⟨hf0, hp0, hp1⟩, hdp⟩ := hfs f hfm
    have hpm : f % 100 = qPa f := by
      unfold qPa at hp1 ⊢
      split at hp1 <;> split <;> omega
    have hlv0 := qLv_le ((qGf a.2.1 hd).drop (k + 1))
    rw [hdr] at hlv K
    simp only [qLv] at hlv
    rw [qRes_cons] at K
    simp only [qDl] at K
    have e18 := hR.1
    have hgv : ∀ j : Nat, j < V.length → qVv (qRc a (a.2.2.2.set i (x, V'))) i j = V'.getD j 0 := fun j hj => by
      rw [qVv_get, qGet_set a i i _ (by omega) hi, if_pos rfl, Int.toNat_natCast]
    have hgl : (qGet (qRc a (a.2.2.2.set i (x, V'))) i).2.length = V.length := by
      rw [qGet_set a i i _ (by omega) hi, if_pos rfl]
      exact hVl
    have hsl : (a.2.2.2.set i (x, V')).length = a.2.2.2.length := List.length_set
    -- a leaf's value moves down
    have hmv : ∀ (m1 : Nat → Int → Int), m1 177 = m 177 → leaf < V.length → qMb ((qup m1 177 (964 + 11 * i + 1 + B.length) (V.getD leaf 0)) 177) (qRc a (a.2.2.2.set i (x, V'.set B.length (V.getD leaf 0)))) := fun m1 e1 hlf => by
      rw [← qRc_set2 a i (x, V')]
      refine qMb_rec hB hl' (by show i < (a.2.2.2.set i (x, V')).length; rw [hsl]; exact hi) (by rw [List.length_set]; omega) (fun j g0 g1 g2 => by rw [qup_i (by omega), e1]) ?_ (fun j hj => ?_)
      · rw [qup_i (by omega), e1, (hB.2.2.2 i (by omega) (by show (i : Int) < (a.2.2.2.set i (x, V')).length; rw [hsl]; omega)).1, qRs_set, qAt_set (by rw [qRs_len]; exact hi), if_pos rfl]
      · rw [List.length_set] at hj
        rw [qgetD_set (by omega)]
        by_cases e : j = B.length
        · subst e
          rw [qup_s, if_pos rfl]
        · rw [qup_i (by omega), if_neg e, e1, (hB.2.2.2 i (by omega) (by show (i : Int) < (a.2.2.2.set i (x, V')).length; rw [hsl]; omega)).2 j (by omega) (by rw [hgl]; omega), hgv j (by omega)]
    refine qr_il rfl rfl (w := ?_)
    refine qr_al rfl rfl (w := ?_)
    refine qr_il rfl rfl (w := ?_)
    refine qr_callP rfl (mFieldsOf (s := hd) h hB hl' hhd) (qrcv1 kd_176) (w := ?_)
    show qW m_Mo_drop 81 _ (qI (qGf a.2.1 hd).length :: List.drop _ _) (qT0, m, r) Q
    refine qr_icge rfl (fun hc => absurd hc (by omega)) (fun hc => ?_)
    refine qr_al rfl rfl (w := ?_)
    refine qr_il rfl rfl (w := ?_)
    refine qr_il rfl rfl (w := ?_)
    refine qr_callP rfl (mFieldOf (s := hd) (k := k) h hB hl' hhd (by show 0 ≤ (k : Int) ∧ (k : Int) < (qGf a.2.1 hd).length; omega)) (qrcv1 kd_176) (w := ?_)
    show qW m_Mo_drop 91 _ (qI (qAt (qGf a.2.1 hd) k) :: List.drop _ _) (qT0, m, r) Q
    rw [← hf]
    refine qr_is7 rfl (w := ?_)
    refine qr_al rfl rfl (w := ?_)
    refine qr_il rfl rfl (w := ?_)
    refine qr_const rfl (w := ?_)
    refine qr_rem rfl (by omega) (w := ?_)
    rw [hpm]
    refine qr_il rfl rfl (w := ?_)
    refine qr_callP rfl (mIsWithin (p := qPa f) (q := p) h hB hl' hP hp hdp ⟨hp0, hp1⟩) (qrcv1 kd_176) (w := ?_)
    show qW m_Mo_drop 103 _ (qI (qbi (qWi a.1 4 (qPa f) p)) :: List.drop _ _) (qT0, m, r) Q
    refine qr_ifneB rfl (fun hcf => ?_) (fun hcf => ?_)
    · refine qr_const rfl (w := ?_)
      refine qr_is8 rfl (w := ?_)
      have hWi : qWi a.1 4 (qPa f) p = true := hcf
      rw [hWi] at K
      have hR2 := hR
      have hG2 : qG qPd m m := qG_rf
      have hB2 := hB
      refine qr_il rfl rfl (w := ?_)
      refine qr_ifeq rfl (fun hc => ?_) (fun hc => absurd hc (by omega))
      refine qr_il rfl rfl (w := ?_)
      refine qr_const rfl (w := ?_)
      refine qr_icge rfl (fun hb => ?_) (fun hb => ?_)
      · refine qr_inc6 rfl (by omega) (w := ?_)
        refine qr_goto rfl (w := ?_)
        rw [if_neg (by omega), Int.zero_add] at hlv
        rw [if_pos hb] at K
        refine ih (k + 1) leaf B R V' _ _ _ (by omega) hB2 hVl hVB hBl hVj hlv hR2 (by omega) (fun m' leaf' V'' y7 y8 k1 k2 k3 k4 k5 => ?_)
        refine K m' leaf' V'' y7 y8 k1 k2 k3 ?_ (qG_tr hG2 k5)
        exact k4
      · rw [if_pos (by omega)] at hlv
        have hlf : leaf < V.length := by omega
        refine qr_al rfl rfl (w := ?_)
        refine qr_gr rfl kd_176 (hr := (rf_8_0 h)) (w := ?_)
        refine qr_const rfl (w := ?_)
        refine qr_const rfl (w := ?_)
        refine qr_il rfl rfl (w := ?_)
        refine qr_mul rfl (by omega) (w := ?_)
        refine qr_add rfl (by omega) (w := ?_)
        refine qr_const rfl (w := ?_)
        refine qr_add rfl (by omega) (w := ?_)
        refine qr_il rfl rfl (w := ?_)
        refine qr_add rfl (by omega) (w := ?_)
        refine qr_al rfl rfl (w := ?_)
        refine qr_il rfl rfl (w := ?_)
        refine qr_il rfl rfl (w := ?_)
        refine qr_callP rfl (mValueOf (i := i) (j := leaf) h hB2 hl' (by show 0 ≤ (i : Int) ∧ (i : Int) < (a.2.2.2.set i (x, V')).length; rw [hsl]; omega) ⟨by omega, by rw [hgl]; omega⟩) (qrcv1 kd_176) (w := ?_)
        rw [hgv leaf hlf, hVj leaf (Nat.le_refl _)]
        refine qr_ias rfl kd_177 (by omega) (w := ?_)
        refine qr_inc4 rfl (by omega) (w := ?_)
        refine qr_il rfl rfl (w := ?_)
        refine qr_il rfl rfl (w := ?_)
        refine qr_ifeq rfl (fun hc => ?_) (fun hc => absurd hc (by omega))
        refine qr_const rfl (w := ?_)
        refine qr_add rfl (by omega) (w := ?_)
        refine qr_is5 rfl (w := ?_)
        refine qr_inc6 rfl (by omega) (w := ?_)
        refine qr_goto rfl (w := ?_)
        have hB3 := hmv m rfl hlf
        have hts := qTake_set (V := V') (k := B.length) (x := V.getD leaf 0) (by omega)
        rw [if_neg (by omega)] at K
        refine ih (k + 1) (leaf + 1) B R (V'.set B.length (V.getD leaf 0)) _ _ _ (by omega) hB3 (by rw [List.length_set]; exact hVl) (hts.1.trans hVB) (by omega) (fun j hj => ?_) (by omega) (qRo_eq hR2 (qup_z (by decide)) (funext (fun j => qup_z (by decide)))) (by omega) (fun m' leaf' V'' y7 y8 k1 k2 k3 k4 k5 => ?_)
        · rw [qgetD_set (by omega), if_neg (by omega)]
          exact hVj j (by omega)
        · have ea : B ++ qDl a.1 p ((qGf a.2.1 hd).drop (k + 1)) (V.drop (leaf + 1)) = B ++ ((if true = true then [] else [(V.drop leaf).getD 0 0]) ++ qDl a.1 p ((qGf a.2.1 hd).drop (k + 1)) (V.drop leaf).tail) := by
            rw [List.tail_drop, if_pos rfl, List.nil_append]
          have eb : R ++ qRes a.1 p ((qGf a.2.1 hd).drop (k + 1)) = R ++ ((if true = true then [] else [f]) ++ qRes a.1 p ((qGf a.2.1 hd).drop (k + 1))) := by
            rw [if_pos rfl, List.nil_append]
          rw [ea] at k3 ⊢
          rw [eb] at k4
          exact K m' leaf' V'' y7 y8 k1 k2 k3 k4 (qG_tr hG2 (qG_tr (qG_up (Or.inl rfl)) k5))
    · refine qr_const rfl (w := ?_)
      refine qr_goto rfl (w := ?_)
      refine qr_is8 rfl (w := ?_)
      have hWi : qWi a.1 4 (qPa f) p = false := hcf
      rw [hWi] at K
      have hR2 := qRo_add (f := f) hR
      have hG2 : qG qPd m (qup (qup m 187 R.length f) 176 18 (R.length + 1)) := qG_tr (qG_up (Or.inr (Or.inl rfl))) (qG_up (Or.inr (Or.inr ⟨rfl, rfl⟩)))
      have hB2 : qMb ((qup (qup m 187 R.length f) 176 18 (R.length + 1)) 177) (qRc a (a.2.2.2.set i (x, V'))) := by
        rw [show (qup (qup m 187 R.length f) 176 18 (R.length + 1)) 177 = m 177 from funext (fun j => (qup_z (by decide)).trans (qup_z (by decide)))]
        exact hB
      refine qr_il rfl rfl (w := ?_)
      refine qr_ifeq rfl (fun hc => absurd hc (by omega)) (fun hc => ?_)
      refine qr_al rfl rfl (w := ?_)
      refine qr_gr rfl kd_176 (hr := (rf_8_17 h)) (w := ?_)
      refine qr_al rfl rfl (w := ?_)
      refine qr_gi rfl kd_176 (w := ?_)
      refine qr_il rfl rfl (w := ?_)
      refine qr_ias rfl kd_187 (by omega) (w := ?_)
      refine qr_al rfl rfl (w := ?_)
      refine qr_dup rfl (w := ?_)
      refine qr_gi rfl kd_176 (w := ?_)
      rw [show (qup m 187 (m 176 18) f) 176 18 = R.length from (qup_z (by decide)).trans e18, e18]
      refine qr_const rfl (w := ?_)
      refine qr_add rfl (by omega) (w := ?_)
      refine qr_pi rfl kd_176 (w := ?_)
      refine qr_il rfl rfl (w := ?_)
      refine qr_const rfl (w := ?_)
      refine qr_icge rfl (fun hb => ?_) (fun hb => ?_)
      · refine qr_inc6 rfl (by omega) (w := ?_)
        refine qr_goto rfl (w := ?_)
        rw [if_neg (by omega), Int.zero_add] at hlv
        rw [if_pos hb] at K
        refine ih (k + 1) leaf B (R ++ [f]) V' _ _ _ (by omega) hB2 hVl hVB hBl hVj hlv hR2 (by rw [List.length_append]; simp only [List.length_cons, List.length_nil]; omega) (fun m' leaf' V'' y7 y8 k1 k2 k3 k4 k5 => ?_)
        refine K m' leaf' V'' y7 y8 k1 k2 k3 ?_ (qG_tr hG2 k5)
        rw [List.append_assoc] at k4
        exact k4
      · rw [if_pos (by omega)] at hlv
        have hlf : leaf < V.length := by omega
        refine qr_al rfl rfl (w := ?_)
        refine qr_gr rfl kd_176 (hr := (rf_8_0 h)) (w := ?_)
        refine qr_const rfl (w := ?_)
        refine qr_const rfl (w := ?_)
        refine qr_il rfl rfl (w := ?_)
        refine qr_mul rfl (by omega) (w := ?_)
        refine qr_add rfl (by omega) (w := ?_)
        refine qr_const rfl (w := ?_)
        refine qr_add rfl (by omega) (w := ?_)
        refine qr_il rfl rfl (w := ?_)
        refine qr_add rfl (by omega) (w := ?_)
        refine qr_al rfl rfl (w := ?_)
        refine qr_il rfl rfl (w := ?_)
        refine qr_il rfl rfl (w := ?_)
        refine qr_callP rfl (mValueOf (i := i) (j := leaf) h hB2 hl' (by show 0 ≤ (i : Int) ∧ (i : Int) < (a.2.2.2.set i (x, V')).length; rw [hsl]; omega) ⟨by omega, by rw [hgl]; omega⟩) (qrcv1 kd_176) (w := ?_)
        rw [hgv leaf hlf, hVj leaf (Nat.le_refl _)]
        refine qr_ias rfl kd_177 (by omega) (w := ?_)
        refine qr_inc4 rfl (by omega) (w := ?_)
        refine qr_il rfl rfl (w := ?_)
        refine qr_il rfl rfl (w := ?_)
        refine qr_ifeq rfl (fun hc => absurd hc (by omega)) (fun hc => ?_)
        refine qr_const rfl (w := ?_)
        refine qr_goto rfl (w := ?_)
        refine qr_add rfl (by omega) (w := ?_)
        refine qr_is5 rfl (w := ?_)
        refine qr_inc6 rfl (by omega) (w := ?_)
        refine qr_goto rfl (w := ?_)
        have hB3 := hmv (qup (qup m 187 R.length f) 176 18 (R.length + 1)) (funext (fun j => (qup_z (by decide)).trans (qup_z (by decide)))) hlf
        have hts := qTake_set (V := V') (k := B.length) (x := V.getD leaf 0) (by omega)
        rw [if_neg (by omega)] at K
        have eBl : ((B ++ [V.getD leaf 0]).length : Int) = B.length + 1 := by rw [List.length_append]; rfl
        rw [← eBl]
        refine ih (k + 1) (leaf + 1) (B ++ [V.getD leaf 0]) (R ++ [f]) (V'.set B.length (V.getD leaf 0)) _ _ _ (by omega) hB3 (by rw [List.length_set]; exact hVl) (by rw [List.length_append]; exact hts.2.trans (by rw [hVB])) (by rw [List.length_append]; simp only [List.length_cons, List.length_nil]; omega) (fun j hj => ?_) (by omega) (qRo_eq hR2 (qup_z (by decide)) (funext (fun j => qup_z (by decide)))) (by rw [List.length_append]; simp only [List.length_cons, List.length_nil]; omega) (fun m' leaf' V'' y7 y8 k1 k2 k3 k4 k5 => ?_)
        · rw [qgetD_set (by omega), if_neg (by omega)]
          exact hVj j (by omega)
        · have ea : B ++ [V.getD leaf 0] ++ qDl a.1 p ((qGf a.2.1 hd).drop (k + 1)) (V.drop (leaf + 1)) = B ++ ((if false = true then [] else [(V.drop leaf).getD 0 0]) ++ qDl a.1 p ((qGf a.2.1 hd).drop (k + 1)) (V.drop leaf).tail) := by
            rw [List.tail_drop, if_neg (by decide), List.append_assoc]
            simp only [List.getD_eq_getElem?_getD, List.getElem?_drop, Nat.add_zero]
          have eb : R ++ [f] ++ qRes a.1 p ((qGf a.2.1 hd).drop (k + 1)) = R ++ ((if false = true then [] else [f]) ++ qRes a.1 p ((qGf a.2.1 hd).drop (k + 1))) := by
            rw [if_neg (by decide), List.append_assoc]
          rw [ea] at k3 ⊢
          rw [eb] at k4
          exact K m' leaf' V'' y7 y8 k1 k2 k3 k4 (qG_tr hG2 (qG_tr (qG_up (Or.inl rfl)) k5))
