/-! Where the class's cells are; Shapes and History -/
variable {m : Nat → Int → Int} {r : Nat → Int → Option Nat}
/-- the references: all but the array of the history's states stay as they were made -/
def qE (r : Nat → Int → Option Nat) : Prop := ∀ (k : Nat) (j : Int), k ≠ 150 → r k j = qr0 k j
theorem qE_row {z n : Nat} (h : qE r) (hz : z ≠ 150) (h1 : qT0[z]? = some (0, 4) ∧ qT0[z + 1]? = some (1, n) ∧ qr0 z 0 = some (z + 1) ∧ n ≤ 1000) : qRow qT0 r z n := ⟨h1.1, h1.2.1, (h z 0 hz).trans h1.2.2.1, h1.2.2.2⟩
theorem qE_ref {z y : Nat} {j : Int} (h : qE r) (h1 : qr0 z j = some y) (hz : z ≠ 150 := by decide) : r z j = some y := (h z j hz).trans h1
theorem qE_form {z : Nat} (h : qE r) (hz : z + 1 < 150 ∨ 150 < z) (h1 : qT0[z]? = some (0, 0) ∧ qr0 z 0 = some (z + 1) ∧ qT0[z + 1]? = some (0, 4) ∧ qT0[z + 2]? = some (1, 26) ∧ qr0 (z + 1) 0 = some (z + 2)) : qForm qT0 r z :=
  ⟨h1.1, (h z 0 (by omega)).trans h1.2.1, h1.2.2.1, h1.2.2.2.1, (h (z + 1) 0 (by omega)).trans h1.2.2.2.2, by decide⟩
theorem qE_state {z : Nat} (h : qE r) (hz : z + 4 < 150 ∨ 150 < z) (h1 : qT0[z]? = some (0, 6) ∧ qr0 z 0 = some (z + 1) ∧ qr0 z 1 = some (z + 3) ∧ (qT0[z + 1]? = some (0, 4) ∧ qT0[z + 2]? = some (1, 30) ∧ qr0 (z + 1) 0 = some (z + 2)) ∧ qT0[z + 3]? = some (0, 4) ∧ qT0[z + 4]? = some (1, 300) ∧ qr0 (z + 3) 0 = some (z + 4)) : qSt qT0 r z :=
  ⟨h1.1, (h z 0 (by omega)).trans h1.2.1, (h z 1 (by omega)).trans h1.2.2.1, ⟨h1.2.2.2.1.1, h1.2.2.2.1.2.1, (h (z + 1) 0 (by omega)).trans h1.2.2.2.1.2.2, by decide⟩, ⟨h1.2.2.2.2.1, h1.2.2.2.2.2.1, (h (z + 3) 0 (by omega)).trans h1.2.2.2.2.2.2, by decide⟩⟩
theorem kText (h : qE r) : qRow qT0 r 1 80 := qE_row h (by decide) (by decide +kernel)
theorem kLine (h : qE r) : qRow qT0 r 3 100 := qE_row h (by decide) (by decide +kernel)
theorem kNums (h : qE r) : qRow qT0 r 14 10 := qE_row h (by decide) (by decide +kernel)
theorem kPaths (h : qE r) : qPths qT0 r 6 := ⟨by decide +kernel, qE_ref h (by decide +kernel), qE_ref h (by decide +kernel), qE_row h (by decide) (by decide +kernel), qE_row h (by decide) (by decide +kernel)⟩
theorem kForm (h : qE r) : qForm qT0 r 11 := qE_form h (by decide) (by decide +kernel)
theorem kRem (h : qE r) : qForm qT0 r 141 := qE_form h (by decide) (by decide +kernel)
theorem kEmpty (h : qE r) : qForm qT0 r 138 := qE_form h (by decide) (by decide +kernel)
theorem kState (h : qE r) : qSt qT0 r 144 := qE_state h (by decide) (by decide +kernel)
abbrev qfa (s : Nat) : Nat := 18 + 3 * s
theorem qfa_ok : ∀ s, s < 40 → (qT0[qfa s]? = some (0, 0) ∧ qr0 (qfa s) 0 = some (qfa s + 1) ∧ qT0[qfa s + 1]? = some (0, 4) ∧ qT0[qfa s + 2]? = some (1, 26) ∧ qr0 (qfa s + 1) 0 = some (qfa s + 2)) ∧ qr0 17 s = some (qfa s) := by decide +kernel
theorem kShape (h : qE r) {s : Nat} (hs : s < 40) : qForm qT0 r (qfa s) := qE_form h (by left; show 18 + 3 * s + 1 < 150; omega) (qfa_ok s hs).1
theorem qha_ok : ∀ i, i < 5 → (qT0[151 + 5 * i]? = some (0, 6) ∧ qr0 (151 + 5 * i) 0 = some (151 + 5 * i + 1) ∧ qr0 (151 + 5 * i) 1 = some (151 + 5 * i + 3) ∧ (qT0[151 + 5 * i + 1]? = some (0, 4) ∧ qT0[151 + 5 * i + 2]? = some (1, 30) ∧ qr0 (151 + 5 * i + 1) 0 = some (151 + 5 * i + 2)) ∧ qT0[151 + 5 * i + 3]? = some (0, 4) ∧ qT0[151 + 5 * i + 4]? = some (1, 300) ∧ qr0 (151 + 5 * i + 3) 0 = some (151 + 5 * i + 4)) := by decide +kernel
theorem kHist (h : qE r) {i : Nat} (hi : i < 5) : qSt qT0 r (151 + 5 * i) := qE_state h (by right; omega) (qha_ok i hi)
theorem kd_0 : qT0[0]? = some (0, 7) := by decide +kernel
theorem kd_5 : qT0[5]? = some (0, 3) := by decide +kernel
theorem kd_6 : qT0[6]? = some (0, 2) := by decide +kernel
theorem kd_11 : qT0[11]? = some (0, 0) := by decide +kernel
theorem kd_16 : qT0[16]? = some (0, 5) := by decide +kernel
theorem kd_138 : qT0[138]? = some (0, 0) := by decide +kernel
theorem kd_141 : qT0[141]? = some (0, 0) := by decide +kernel
theorem kd_144 : qT0[144]? = some (0, 6) := by decide +kernel
theorem kd_149 : qT0[149]? = some (0, 1) := by decide +kernel
theorem kd_17 : qT0[17]? = some (0 + 2, 40) := by decide +kernel
theorem kd_150 : qT0[150]? = some (6 + 2, 5) := by decide +kernel
theorem rf_7_0 (h : qE r) : r 0 0 = some 1 := qE_ref h (by decide +kernel)
theorem rf_7_1 (h : qE r) : r 0 1 = some 3 := qE_ref h (by decide +kernel)
theorem rf_7_2 (h : qE r) : r 0 2 = some 5 := qE_ref h (by decide +kernel)
theorem rf_7_3 (h : qE r) : r 0 3 = some 6 := qE_ref h (by decide +kernel)
theorem rf_7_4 (h : qE r) : r 0 4 = some 16 := qE_ref h (by decide +kernel)
theorem rf_7_5 (h : qE r) : r 0 5 = some 141 := qE_ref h (by decide +kernel)
theorem rf_7_6 (h : qE r) : r 0 6 = some 144 := qE_ref h (by decide +kernel)
theorem rf_7_7 (h : qE r) : r 0 7 = some 149 := qE_ref h (by decide +kernel)
theorem rf_3_0 (h : qE r) : r 5 0 = some 6 := qE_ref h (by decide +kernel)
theorem rf_3_1 (h : qE r) : r 5 1 = some 11 := qE_ref h (by decide +kernel)
theorem rf_3_2 (h : qE r) : r 5 2 = some 14 := qE_ref h (by decide +kernel)
theorem rf_5_0 (h : qE r) : r 16 0 = some 17 := qE_ref h (by decide +kernel)
theorem rf_5_1 (h : qE r) : r 16 1 = some 138 := qE_ref h (by decide +kernel)
theorem rf_1_0 (h : qE r) : r 149 0 = some 150 := qE_ref h (by decide +kernel)
/-- the shapes' forms -/
def qSh (m : Nat → Int → Int) (ss : List (List Int)) : Prop := ss.length ≤ 40 ∧ (∀ (s : Nat) (h : s < ss.length), qFm m (qfa s) ss[s]) ∧ qFm m 138 []
theorem qSh_fr {P : Nat → Prop} {m m' : Nat → Int → Int} {ss : List (List Int)} (h : qSh m ss) (f : qFr P m m') (h0 : ∀ a, 18 ≤ a → a < 141 → ¬ P a) : qSh m' ss :=
  ⟨h.1, fun s hs => by
    have h40 := h.1
    exact qFm_fr (h.2.1 s hs) f (h0 _ (by show 18 ≤ 18 + 3 * s; omega) (by show 18 + 3 * s < 141; omega)) (h0 _ (by show 18 ≤ 18 + 3 * s + 1; omega) (by show 18 + 3 * s + 1 < 141; omega)) (h0 _ (by show 18 ≤ 18 + 3 * s + 2; omega) (by show 18 + 3 * s + 2 < 141; omega)), qFm_fr h.2.2 f (h0 _ (by omega) (by omega)) (h0 _ (by omega) (by omega)) (h0 _ (by omega) (by omega))⟩
/-- the form of a shape, empty outside -/
def qGf (ss : List (List Int)) (s : Int) : List Int := if 0 ≤ s ∧ s < ss.length then ss.getD s.toNat [] else []
/-- the cell of a shape's form -/
def qFa (s : Int) : Nat := if 0 ≤ s ∧ s < 40 then qfa s.toNat else 138
theorem qFa_k (h : qE r) (s : Int) : qForm qT0 r (qFa s) := by
  unfold qFa
  split
  · exact kShape h (by omega)
  · exact kEmpty h
theorem qFa_c {ss : List (List Int)} (h : qSh m ss) {s : Int} (hs : s < ss.length ∨ 40 ≤ s) : qFm m (qFa s) (qGf ss s) := by
  unfold qFa qGf
  have h40 := h.1
  by_cases h1 : 0 ≤ s ∧ s < ss.length
  · rw [if_pos h1, if_pos ⟨h1.1, by omega⟩]
    have h2 := h.2.1 s.toNat (by omega)
    rw [List.getD_eq_getElem?_getD, List.getElem?_eq_getElem (by omega)]
    exact h2
  · rw [if_neg h1, if_neg (by omega)]
    exact h.2.2
theorem sShapes_formAt (h : qE r) (s : Int) : qP m_Shs_formAt [qK 16, qI s, none] (qT0, m, r) (qK (qFa s)) := by
  unfold qFa
  refine qr_il rfl rfl (w := ?_)
  refine qr_iflt rfl (fun hc => ?_) (fun hc => ?_)
  · refine qr_al rfl rfl (w := ?_)
    refine qr_gr rfl kd_16 (hr := (rf_5_1 h)) (w := ?_)
    refine qW_areturn rfl ?_
    refine ⟨congrArg qK ?_, rfl⟩
    split
    · first | rfl | (exfalso; omega)
    · first | rfl | (exfalso; omega)
  · refine qr_il rfl rfl (w := ?_)
    refine qr_al rfl rfl (w := ?_)
    refine qr_gr rfl kd_16 (hr := (rf_5_0 h)) (w := ?_)
    refine qr_len rfl kd_17 (w := ?_)
    refine qr_iclt rfl (fun hcf => ?_) (fun hcf => ?_)
    · refine qr_al rfl rfl (w := ?_)
      refine qr_gr rfl kd_16 (hr := (rf_5_0 h)) (w := ?_)
      refine qr_il rfl rfl (w := ?_)
      have e17 : r 17 s = some (qfa s.toNat) := by
        have h9 := (h 17 s (by decide)).trans ((by rw [show s = ((s.toNat : Nat) : Int) by omega]; exact (qfa_ok s.toNat (by omega)).2) : qr0 17 s = some (qfa s.toNat))
        exact h9
      refine qr_aa rfl kd_17 (by omega) e17 (w := ?_)
      refine qr_as2 rfl (w := ?_)
      refine qr_al rfl rfl (w := ?_)
      refine qr_nnul rfl (w := ?_)
      refine qr_al rfl rfl (w := ?_)
      refine qW_areturn rfl ?_
      refine ⟨congrArg qK ?_, rfl⟩
      split
      · first | rfl | (exfalso; omega)
      · first | rfl | (exfalso; omega)
    · refine qr_al rfl rfl (w := ?_)
      refine qr_gr rfl kd_16 (hr := (rf_5_1 h)) (w := ?_)
      refine qW_areturn rfl ?_
      refine ⟨congrArg qK ?_, rfl⟩
      split
      · first | rfl | (exfalso; omega)
      · first | rfl | (exfalso; omega)
/-- the number of a form among some, from a on -/
def qFs : List (List Int) → List Int → Nat → Nat
  | [], _, a => a
  | g :: t, fs, a => if g = fs then a else qFs t fs (a + 1)
theorem qFs_le (ss : List (List Int)) (fs : List Int) : ∀ a, a ≤ qFs ss fs a ∧ qFs ss fs a ≤ a + ss.length := by
  induction ss with
  | nil => intro a; simp [qFs]
  | cons p t ih =>
    intro a
    simp only [qFs, List.length_cons]
    have := ih (a + 1)
    split <;> omega
theorem sShapes_numberFor_loop (h : qE r) {ss : List (List Int)} (hS : qSh m ss) {z : Nat} {fs : List Int} (hz : qForm qT0 r z) (hf : qFm m z fs) : ∀ (k i : Nat), i + k = ss.length → qP2 m_Shs_numberFor 2 [qK 16, qK z, qI ss.length, qI i] (qT0, m, r) (qI (qFs (ss.drop i) fs i)) := by
  have h40 := hS.1
  intro k
  induction k with
  | zero =>
    intro i hik
    rw [show ss.drop i = [] by rw [List.drop_eq_nil_iff]; omega]
    have hie : (i : Int) = ss.length := by omega
    unfold qP2
    refine qr_il rfl rfl (w := ?_)
    refine qr_il rfl rfl (w := ?_)
    refine qr_icge rfl (fun hc => ?_) (fun hc => ?_)
    · refine qr_il rfl rfl (w := ?_)
      refine qW_ireturn rfl ?_
      exact ⟨by rw [← hie]; rfl, rfl⟩
    · exact absurd hc (by omega)
  | succ k ih =>
    intro i hik
    rw [qdrop2 (by omega)]
    have hg : qGf ss i = ss[i] := by
      unfold qGf
      rw [if_pos ⟨by omega, by omega⟩, Int.toNat_natCast, List.getD_eq_getElem?_getD, List.getElem?_eq_getElem (by omega)]
      rfl
    unfold qP2
    refine qr_il rfl rfl (w := ?_)
    refine qr_il rfl rfl (w := ?_)
    refine qr_icge rfl (fun hc => ?_) (fun hc => ?_)
    · refine qr_il rfl rfl (w := ?_)
      refine qW_ireturn rfl ?_
      first
        | exact absurd hc (by omega)
        | (rw [hg] at hcf
           exact ⟨by simp only [qFs, if_pos (of_decide_eq_true hcf)], rfl⟩)
    · refine qr_al rfl rfl (w := ?_)
      refine qr_il rfl rfl (w := ?_)
      refine qr_callP rfl (sShapes_formAt h i) (qrcv1 kd_16) (w := ?_)
      refine qr_al rfl rfl (w := ?_)
      refine qr_callP rfl (sForm_isSameAs (qFa_k h i) (qFa_c hS (by omega)) hz hf) (qrcv1 (qFa_k h i).1) (w := ?_)
      refine qr_ifeqB rfl (fun hcf => ?_) (fun hcf => ?_)
      · refine qr_inc3 rfl (by omega) (w := ?_)
        refine qr_goto rfl (w := ?_)
        rw [hg] at hcf
        have h1 := ih (i + 1) (by omega)
        simp only [qFs, if_neg (of_decide_eq_false hcf)]
        exact h1
      · refine qr_il rfl rfl (w := ?_)
        refine qW_ireturn rfl ?_
        first
          | exact absurd hc (by omega)
          | (rw [hg] at hcf
             exact ⟨by simp only [qFs, if_pos (of_decide_eq_true hcf)], rfl⟩)
theorem sShapes_numberFor (h : qE r) {ss : List (List Int)} (hS : qSh m ss) {z : Nat} {fs : List Int} (hz : qForm qT0 r z) (hf : qFm m z fs) : qP m_Shs_numberFor [qK 16, qK z, qI ss.length, none] (qT0, m, r) (qI (qFs ss fs 0)) := by
  refine qr_const rfl (w := ?_)
  refine qr_is3 rfl (w := ?_)
  exact sShapes_numberFor_loop h hS hz hf ss.length 0 (by omega)
theorem qSh_add {m1 : Nat → Int → Int} {ss : List (List Int)} {fs : List Int} (hS : qSh m ss) (hn : ss.length < 40) (hz1 : qFm m1 (qfa ss.length) fs) (hf1 : qFr (qIv (qfa ss.length) (qfa ss.length + 3)) m m1) : qSh m1 (ss ++ [fs]) ∧ qFr (qIv 18 138) m m1 := by
  refine ⟨⟨by rw [List.length_append]; simp only [List.length_cons, List.length_nil]; omega, fun s hs => ?_, ?_⟩, qFr_mo hf1 (fun a ha => ?_)⟩
  · rw [List.length_append] at hs
    simp only [List.length_cons, List.length_nil] at hs
    by_cases hse : s = ss.length
    · subst hse
      rw [List.getElem_append_right (by omega)]
      simpa using hz1
    · rw [List.getElem_append_left (by omega)]
      exact qFm_fr (hS.2.1 s (by omega)) hf1 (by show ¬ (18 + 3 * ss.length ≤ 18 + 3 * s ∧ 18 + 3 * s < 18 + 3 * ss.length + 3); omega) (by show ¬ (18 + 3 * ss.length ≤ 18 + 3 * s + 1 ∧ 18 + 3 * s + 1 < 18 + 3 * ss.length + 3); omega) (by show ¬ (18 + 3 * ss.length ≤ 18 + 3 * s + 2 ∧ 18 + 3 * s + 2 < 18 + 3 * ss.length + 3); omega)
  · exact qFm_fr hS.2.2 hf1 (by show ¬ (18 + 3 * ss.length ≤ 138 ∧ 138 < 18 + 3 * ss.length + 3); omega) (by show ¬ (18 + 3 * ss.length ≤ 139 ∧ 139 < 18 + 3 * ss.length + 3); omega) (by show ¬ (18 + 3 * ss.length ≤ 140 ∧ 140 < 18 + 3 * ss.length + 3); omega)
  · have h1 : 18 + 3 * ss.length ≤ a := ha.1
    have h2 : a < 18 + 3 * ss.length + 3 := ha.2
    constructor <;> omega
theorem sShapes_keep (h : qE r) {ss : List (List Int)} (hS : qSh m ss) {z : Nat} {fs : List Int} (hz : qForm qT0 r z) (hf : qFm m z fs) (hd : z + 3 ≤ 18 ∨ 141 ≤ z) (hn : ss.length < 40) : qW m_Shs_keep 0 [qK 16, qI ss.length, qK z] [] (qT0, m, r) (fun _ σ => ∃ m', σ = (qT0, m', r) ∧ qSh m' (ss ++ [fs]) ∧ qFr (qIv 18 138) m m') := by
  have e : qFa (ss.length : Int) = qfa ss.length := by
    unfold qFa
    rw [if_pos ⟨by omega, by omega⟩, Int.toNat_natCast]
  refine qr_il rfl rfl (w := ?_)
  refine qr_iflt rfl (fun hc => ?_) (fun hc => ?_)
  · refine qW_return rfl ?_
    first
      | exact absurd hc (by omega)
      | exact absurd hcf (by omega)
      | exact ⟨_, rfl, qSh_add hS hn hz1 hf1⟩
  · refine qr_il rfl rfl (w := ?_)
    refine qr_al rfl rfl (w := ?_)
    refine qr_gr rfl kd_16 (hr := (rf_5_0 h)) (w := ?_)
    refine qr_len rfl kd_17 (w := ?_)
    refine qr_icge rfl (fun hcf => ?_) (fun hcf => ?_)
    · refine qW_return rfl ?_
      first
        | exact absurd hc (by omega)
        | exact absurd hcf (by omega)
        | exact ⟨_, rfl, qSh_add hS hn hz1 hf1⟩
    · refine qr_al rfl rfl (w := ?_)
      refine qr_il rfl rfl (w := ?_)
      refine qr_callP rfl (sShapes_formAt h ss.length) (qrcv1 kd_16) (w := ?_)
      rw [e]
      refine qr_al rfl rfl (w := ?_)
      refine qr_callV rfl (sForm_copyFrom (kShape h hn) hz hf (by show 18 + 3 * ss.length + 3 ≤ z ∨ z + 3 ≤ 18 + 3 * ss.length; omega)) (qrcv1 (kShape h hn).1) (w := fun _ σ hσ => ?_)
      obtain ⟨m1, rfl, hz1, hf1⟩ := hσ
      refine qW_return rfl ?_
      first
        | exact absurd hc (by omega)
        | exact absurd hcf (by omega)
        | exact ⟨_, rfl, qSh_add hS hn hz1 hf1⟩
