/-! Texts that come back -/
variable {m : Nat → Int → Int} {r : Nat → Int → Option Nat}
def qClo (ps : List (Int × Int)) : Nat → Int → Int → List Int × Int
  | 0, p, _ => ([], p)
  | k + 1, p, u => if p = u then ([], p) else (125 :: (qClo ps k (qOu ps p) u).1, (qClo ps k (qOu ps p) u).2)
def qNam (ps : List (Int × Int)) (p : Int) (l : List Int) : List Int := l ++ ((if qAt l (l.length - 1) = 123 then [] else [44]) ++ [qLe ps p, 58])
def qNum (v : Int) : List Int := (if 100 ≤ v then [48 + v / 100] else []) ++ ((if 10 ≤ v then [48 + v / 10 % 10] else []) ++ [48 + v % 10])
def qTxt (ps : List (Int × Int)) (nv : Int → List Int) : List Int → Int → Int → List Int → List Int
  | [], u, _, l => l ++ (qClo ps 3 u (-9)).1 ++ [125]
  | f :: t, u, lf, l => if 100 ≤ f then qTxt ps nv t (qPa f) lf (qNam ps (qPa f) (l ++ (qClo ps 3 u (qOu ps (qPa f))).1) ++ [123]) else qTxt ps nv t (qClo ps 3 u (qOu ps (qPa f))).2 (lf + 1) (qNam ps (qPa f) (l ++ (qClo ps 3 u (qOu ps (qPa f))).1) ++ nv lf)
theorem qNam_le (ps : List (Int × Int)) (p : Int) (l : List Int) : l.length ≤ (qNam ps p l).length := by simp [qNam]
theorem qTxt_le (ps : List (Int × Int)) (nv : Int → List Int) : ∀ (fs : List Int) (u lf : Int) (l : List Int), l.length < (qTxt ps nv fs u lf l).length := by
  intro fs
  induction fs with
  | nil => intro u lf l; simp [qTxt]
  | cons f t ih =>
    intro u lf l
    have h0 := qNam_le ps (qPa f) (l ++ (qClo ps 3 u (qOu ps (qPa f))).1)
    rw [List.length_append] at h0
    simp only [qTxt]
    split
    · have h1 := ih (qPa f) lf (qNam ps (qPa f) (l ++ (qClo ps 3 u (qOu ps (qPa f))).1) ++ [123])
      rw [List.length_append] at h1
      omega
    · have h1 := ih (qClo ps 3 u (qOu ps (qPa f))).2 (lf + 1) (qNam ps (qPa f) (l ++ (qClo ps 3 u (qOu ps (qPa f))).1) ++ nv lf)
      rw [List.length_append] at h1
      omega
theorem sLR_writeClosings_loop (h : qE r) {ps : List (Int × Int)} {u0 u : Int} : ∀ (k j : Nat) (p : Int) (l : List Int) (m : Nat → Int → Int), j + k = 4 → qRw m 3 l → qPh m 6 ps → (l ++ (qClo ps k p u).1).length ≤ 100 → qW m_LR_writeClosings 5 [qK 0, qI u0, qI u, qI p, qI j] [] (qT0, m, r) (fun x σ => ∃ m', σ = (qT0, m', r) ∧ x = qI (qClo ps k p u).2 ∧ qRw m' 3 (l ++ (qClo ps k p u).1) ∧ qFr (qPz 3) m m') := by
  intro k
  induction k with
  | zero =>
    intro j p l m hjk hl hP hle
    refine qr_il rfl rfl (w := ?_)
    refine qr_const rfl (w := ?_)
    refine qr_icge rfl (fun hc => ?_) (fun hc => ?_)
    · refine qr_il rfl rfl (w := ?_)
      refine qW_ireturn rfl ?_
      exact ⟨m, rfl, rfl, by simpa [qClo] using hl, qFr_rf⟩
    · exact absurd hc (by omega)
  | succ k ih =>
    intro j p l m hjk hl hP hle
    simp only [qClo] at hle ⊢
    refine qr_il rfl rfl (w := ?_)
    refine qr_const rfl (w := ?_)
    refine qr_icge rfl (fun hc => ?_) (fun hc => ?_)
    · refine qr_il rfl rfl (w := ?_)
      refine qW_ireturn rfl ?_
      first
        | exact absurd hc (by omega)
        | (rw [if_pos hcf]; exact ⟨m, rfl, rfl, by simpa using hl, qFr_rf⟩)
    · refine qr_il rfl rfl (w := ?_)
      refine qr_il rfl rfl (w := ?_)
      refine qr_iceq rfl (fun hcf => ?_) (fun hcf => ?_)
      · refine qr_il rfl rfl (w := ?_)
        refine qW_ireturn rfl ?_
        first
          | exact absurd hc (by omega)
          | (rw [if_pos hcf]; exact ⟨m, rfl, rfl, by simpa using hl, qFr_rf⟩)
      · refine qr_al rfl rfl (w := ?_)
        refine qr_gr rfl kd_0 (hr := (rf_7_1 h)) (w := ?_)
        refine qr_const rfl (w := ?_)
        rw [if_neg hcf] at hle ⊢
        simp only [List.length_append, List.length_cons] at hle
        refine qr_callV rfl (sRow_add (kLine h) hl (by omega)) (qrcv1 (kLine h).1) (w := fun _ σ hσ => ?_)
        obtain ⟨m1, rfl, hl1, hf1⟩ := hσ
        have hP1 := qPh_fr hP hf1 (fun a g1 g2 => by show ¬ (a = 3 ∨ a = 4); omega)
        refine qr_al rfl rfl (w := ?_)
        refine qr_gr rfl kd_0 (hr := (rf_7_3 h)) (w := ?_)
        refine qr_il rfl rfl (w := ?_)
        refine qr_callP rfl (sPaths_outerOf (kPaths h) hP1) (qrcv1 kd_6) (w := ?_)
        refine qr_is3 rfl (w := ?_)
        refine qr_inc4 rfl (by omega) (w := ?_)
        refine qr_goto rfl (w := ?_)
        have h1 := ih (j + 1) (qOu ps p) (l ++ [125]) m1 (by omega) hl1 hP1 (by simp only [List.length_append, List.length_cons, List.length_nil]; omega)
        refine qW_mono h1 (fun x σ hx => ?_)
        obtain ⟨m2, rfl, rfl, g1, g2⟩ := hx
        rw [List.append_assoc, List.singleton_append] at g1
        exact ⟨m2, rfl, rfl, g1, qFr_tr hf1 g2⟩
theorem sLR_writeClosings (h : qE r) {ps : List (Int × Int)} {p u : Int} {l : List Int} (hl : qRw m 3 l) (hP : qPh m 6 ps) (hle : (l ++ (qClo ps 3 p u).1).length ≤ 100) : qW m_LR_writeClosings 0 [qK 0, qI p, qI u, none, none] [] (qT0, m, r) (fun x σ => ∃ m', σ = (qT0, m', r) ∧ x = qI (qClo ps 3 p u).2 ∧ qRw m' 3 (l ++ (qClo ps 3 p u).1) ∧ qFr (qPz 3) m m') := by
  refine qr_il rfl rfl (w := ?_)
  refine qr_is3 rfl (w := ?_)
  refine qr_const rfl (w := ?_)
  refine qr_is4 rfl (w := ?_)
  exact sLR_writeClosings_loop h 3 1 p l m (by omega) hl hP hle
theorem sLR_writeName (h : qE r) {ps : List (Int × Int)} {p : Int} {l : List Int} (hl : qRw m 3 l) (hP : qPh m 6 ps) (hle : (qNam ps p l).length ≤ 100) : qW m_LR_writeName 0 [qK 0, qI p] [] (qT0, m, r) (fun _ σ => ∃ m', σ = (qT0, m', r) ∧ qRw m' 3 (qNam ps p l) ∧ qFr (qPz 3) m m') := by
  unfold qNam at hle ⊢
  simp only [List.length_append] at hle
  have hll : l.length ≤ 100 := by omega
  refine qr_al rfl rfl (w := ?_)
  refine qr_gr rfl kd_0 (hr := (rf_7_1 h)) (w := ?_)
  refine qr_al rfl rfl (w := ?_)
  refine qr_gr rfl kd_0 (hr := (rf_7_1 h)) (w := ?_)
  refine qr_callP rfl (sRow_len (kLine h) hl) (qrcv1 (kLine h).1) (w := ?_)
  refine qr_const rfl (w := ?_)
  refine qr_sub rfl (by omega) (w := ?_)
  refine qr_callP rfl (sRow_at (kLine h) hl hll) (qrcv1 (kLine h).1) (w := ?_)
  refine qr_const rfl (w := ?_)
  refine qr_iceq rfl (fun hc => ?_) (fun hc => ?_)
  · rw [if_pos hc] at hle ⊢
    simp only [List.length_cons, List.length_nil] at hle
    refine qr_al rfl rfl (w := ?_)
    refine qr_gr rfl kd_0 (hr := (rf_7_1 h)) (w := ?_)
    refine qr_al rfl rfl (w := ?_)
    refine qr_gr rfl kd_0 (hr := (rf_7_3 h)) (w := ?_)
    refine qr_il rfl rfl (w := ?_)
    refine qr_callP rfl (sPaths_letterOf (kPaths h) hP) (qrcv1 kd_6) (w := ?_)
    refine qr_callV rfl (sRow_add (kLine h) hl (by omega)) (qrcv1 (kLine h).1) (w := fun _ σ hσ => ?_)
    obtain ⟨m1, rfl, hl1, hf1⟩ := hσ
    have hP1 := qPh_fr hP hf1 (fun a g1 g2 => by show ¬ (a = 3 ∨ a = 4); omega)
    refine qr_al rfl rfl (w := ?_)
    refine qr_gr rfl kd_0 (hr := (rf_7_1 h)) (w := ?_)
    refine qr_const rfl (w := ?_)
    have e2 : (l ++ [qLe ps p]).length = l.length + 1 := by simp
    refine qr_callV rfl (sRow_add (kLine h) hl1 (by omega)) (qrcv1 (kLine h).1) (w := fun _ σ hσ => ?_)
    obtain ⟨m2, rfl, hl2, hf2⟩ := hσ
    have hP2 := qPh_fr hP1 hf2 (fun a g1 g2 => by show ¬ (a = 3 ∨ a = 4); omega)
    refine qW_return rfl ?_
    exact ⟨_, rfl, by simpa using hl2, qFr_tr hf1 hf2⟩
  · rw [if_neg hc] at hle ⊢
    simp only [List.length_cons, List.length_nil] at hle
    refine qr_al rfl rfl (w := ?_)
    refine qr_gr rfl kd_0 (hr := (rf_7_1 h)) (w := ?_)
    refine qr_const rfl (w := ?_)
    refine qr_callV rfl (sRow_add (kLine h) hl (by omega)) (qrcv1 (kLine h).1) (w := fun _ σ hσ => ?_)
    obtain ⟨m1, rfl, hl1, hf1⟩ := hσ
    have hP1 := qPh_fr hP hf1 (fun a g1 g2 => by show ¬ (a = 3 ∨ a = 4); omega)
    refine qr_al rfl rfl (w := ?_)
    refine qr_gr rfl kd_0 (hr := (rf_7_1 h)) (w := ?_)
    refine qr_al rfl rfl (w := ?_)
    refine qr_gr rfl kd_0 (hr := (rf_7_3 h)) (w := ?_)
    refine qr_il rfl rfl (w := ?_)
    refine qr_callP rfl (sPaths_letterOf (kPaths h) hP1) (qrcv1 kd_6) (w := ?_)
    have e1 : (l ++ [44]).length = l.length + 1 := by simp
    refine qr_callV rfl (sRow_add (kLine h) hl1 (by omega)) (qrcv1 (kLine h).1) (w := fun _ σ hσ => ?_)
    obtain ⟨m2, rfl, hl2, hf2⟩ := hσ
    have hP2 := qPh_fr hP1 hf2 (fun a g1 g2 => by show ¬ (a = 3 ∨ a = 4); omega)
    refine qr_al rfl rfl (w := ?_)
    refine qr_gr rfl kd_0 (hr := (rf_7_1 h)) (w := ?_)
    refine qr_const rfl (w := ?_)
    have e2 : (l ++ [44] ++ [qLe ps p]).length = l.length + 2 := by simp
    refine qr_callV rfl (sRow_add (kLine h) hl2 (by omega)) (qrcv1 (kLine h).1) (w := fun _ σ hσ => ?_)
    obtain ⟨m3, rfl, hl3, hf3⟩ := hσ
    have hP3 := qPh_fr hP2 hf3 (fun a g1 g2 => by show ¬ (a = 3 ∨ a = 4); omega)
    refine qW_return rfl ?_
    exact ⟨_, rfl, by simpa using hl3, qFr_tr hf1 (qFr_tr hf2 hf3)⟩
theorem sLR_writeNumber (h : qE r) {v : Int} {l : List Int} (hv : 0 ≤ v ∧ v ≤ 999) (hl : qRw m 3 l) (hle : (l ++ qNum v).length ≤ 100) : qW m_LR_writeNumber 0 [qK 0, qI v] [] (qT0, m, r) (fun _ σ => ∃ m', σ = (qT0, m', r) ∧ qRw m' 3 (l ++ qNum v) ∧ qFr (qPz 3) m m') := by
  unfold qNum at hle ⊢
  simp only [List.length_append] at hle
  rcases (show v < 10 ∨ (10 ≤ v ∧ v < 100) ∨ 100 ≤ v by omega) with g | g | g
  · rw [if_neg (by omega), if_neg (by omega)] at hle ⊢
    simp only [List.length_cons, List.length_nil] at hle
    refine qr_il rfl rfl (w := ?_)
    refine qr_const rfl (w := ?_)
    refine qr_iclt rfl (fun hc => ?_) (fun hc => absurd hc (by omega))
    refine qr_il rfl rfl (w := ?_)
    refine qr_const rfl (w := ?_)
    refine qr_iclt rfl (fun hct => ?_) (fun hct => absurd hct (by omega))
    refine qr_al rfl rfl (w := ?_)
    refine qr_gr rfl kd_0 (hr := (rf_7_1 h)) (w := ?_)
    refine qr_const rfl (w := ?_)
    refine qr_il rfl rfl (w := ?_)
    refine qr_const rfl (w := ?_)
    refine qr_rem rfl (by omega) (w := ?_)
    refine qr_add rfl (by omega) (w := ?_)
    refine qr_callV rfl (sRow_add (kLine h) hl (by omega)) (qrcv1 (kLine h).1) (w := fun _ σ hσ => ?_)
    obtain ⟨m1, rfl, hl1, hf1⟩ := hσ
    refine qW_return rfl ?_
    exact ⟨_, rfl, by simpa using hl1, hf1⟩
  · rw [if_neg (by omega), if_pos (by omega)] at hle ⊢
    simp only [List.length_cons, List.length_nil] at hle
    refine qr_il rfl rfl (w := ?_)
    refine qr_const rfl (w := ?_)
    refine qr_iclt rfl (fun hc => ?_) (fun hc => absurd hc (by omega))
    refine qr_il rfl rfl (w := ?_)
    refine qr_const rfl (w := ?_)
    refine qr_iclt rfl (fun hct => absurd hct (by omega)) (fun hct => ?_)
    refine qr_al rfl rfl (w := ?_)
    refine qr_gr rfl kd_0 (hr := (rf_7_1 h)) (w := ?_)
    refine qr_const rfl (w := ?_)
    refine qr_il rfl rfl (w := ?_)
    refine qr_const rfl (w := ?_)
    refine qr_div rfl (by omega) (w := ?_)
    refine qr_const rfl (w := ?_)
    refine qr_rem rfl (by omega) (w := ?_)
    refine qr_add rfl (by omega) (w := ?_)
    refine qr_callV rfl (sRow_add (kLine h) hl (by omega)) (qrcv1 (kLine h).1) (w := fun _ σ hσ => ?_)
    obtain ⟨m1, rfl, hl1, hf1⟩ := hσ
    have e2 : (l ++ [48 + v / 10 % 10]).length = l.length + 1 := by simp
    refine qr_al rfl rfl (w := ?_)
    refine qr_gr rfl kd_0 (hr := (rf_7_1 h)) (w := ?_)
    refine qr_const rfl (w := ?_)
    refine qr_il rfl rfl (w := ?_)
    refine qr_const rfl (w := ?_)
    refine qr_rem rfl (by omega) (w := ?_)
    refine qr_add rfl (by omega) (w := ?_)
    refine qr_callV rfl (sRow_add (kLine h) hl1 (by omega)) (qrcv1 (kLine h).1) (w := fun _ σ hσ => ?_)
    obtain ⟨m2, rfl, hl2, hf2⟩ := hσ
    refine qW_return rfl ?_
    exact ⟨_, rfl, by simpa using hl2, qFr_tr hf1 hf2⟩
  · rw [if_pos (by omega), if_pos (by omega)] at hle ⊢
    simp only [List.length_cons, List.length_nil] at hle
    refine qr_il rfl rfl (w := ?_)
    refine qr_const rfl (w := ?_)
    refine qr_iclt rfl (fun hc => absurd hc (by omega)) (fun hc => ?_)
    refine qr_al rfl rfl (w := ?_)
    refine qr_gr rfl kd_0 (hr := (rf_7_1 h)) (w := ?_)
    refine qr_const rfl (w := ?_)
    refine qr_il rfl rfl (w := ?_)
    refine qr_const rfl (w := ?_)
    refine qr_div rfl (by omega) (w := ?_)
    refine qr_add rfl (by omega) (w := ?_)
    refine qr_callV rfl (sRow_add (kLine h) hl (by omega)) (qrcv1 (kLine h).1) (w := fun _ σ hσ => ?_)
    obtain ⟨m1, rfl, hl1, hf1⟩ := hσ
    have e2 : (l ++ [48 + v / 100]).length = l.length + 1 := by simp
    refine qr_il rfl rfl (w := ?_)
    refine qr_const rfl (w := ?_)
    refine qr_iclt rfl (fun hcf => absurd hcf (by omega)) (fun hcf => ?_)
    refine qr_al rfl rfl (w := ?_)
    refine qr_gr rfl kd_0 (hr := (rf_7_1 h)) (w := ?_)
    refine qr_const rfl (w := ?_)
    refine qr_il rfl rfl (w := ?_)
    refine qr_const rfl (w := ?_)
    refine qr_div rfl (by omega) (w := ?_)
    refine qr_const rfl (w := ?_)
    refine qr_rem rfl (by omega) (w := ?_)
    refine qr_add rfl (by omega) (w := ?_)
    refine qr_callV rfl (sRow_add (kLine h) hl1 (by omega)) (qrcv1 (kLine h).1) (w := fun _ σ hσ => ?_)
    obtain ⟨m2, rfl, hl2, hf2⟩ := hσ
    have e3 : (l ++ [48 + v / 100] ++ [48 + v / 10 % 10]).length = l.length + 2 := by simp
    refine qr_al rfl rfl (w := ?_)
    refine qr_gr rfl kd_0 (hr := (rf_7_1 h)) (w := ?_)
    refine qr_const rfl (w := ?_)
    refine qr_il rfl rfl (w := ?_)
    refine qr_const rfl (w := ?_)
    refine qr_rem rfl (by omega) (w := ?_)
    refine qr_add rfl (by omega) (w := ?_)
    refine qr_callV rfl (sRow_add (kLine h) hl2 (by omega)) (qrcv1 (kLine h).1) (w := fun _ σ hσ => ?_)
    obtain ⟨m3, rfl, hl3, hf3⟩ := hσ
    refine qW_return rfl ?_
    exact ⟨_, rfl, by simpa using hl3, qFr_tr hf1 (qFr_tr hf2 hf3)⟩
/-- the numbers of a record's text: none for the shape alone -/
def qNv (vs : List Int) (x : Int) (lf : Int) : List Int := if x = -9 then [] else qNum (qAt vs (x * 10 + lf))
theorem sLR_writeText_loop (h : qE r) {rs vs : List Int} {pk sk bd : Int} {ps : List (Int × Int)} {z : Nat} {fs : List Int} {x : Int} (hz : qForm qT0 r z) (hzd : 5 ≤ z) (hzd2 : z < 144 ∨ 149 ≤ z) (hfs : ∀ f ∈ fs, 0 ≤ f ∧ f < 1000) (hx : x = -9 ∨ (0 ≤ x ∧ x < 30)) (hv : x ≠ -9 → ∀ j : Int, 0 ≤ j → j < qLv fs → 0 ≤ qAt vs (x * 10 + j) ∧ qAt vs (x * 10 + j) ≤ 999) :
    ∀ (k i : Nat) (u lf : Int) (l : List Int) (y : qA) (m : Nat → Int → Int), i + k = fs.length → 0 ≤ lf → lf + qLv (fs.drop i) = qLv fs → qSc m 144 rs vs pk sk bd → qFm m z fs → qPh m 6 ps → qRw m 3 l → (qTxt ps (qNv vs x) (fs.drop i) u lf l).length ≤ 100 → qW m_LR_writeText 26 [qK 0, qK z, qI x, qI u, qI lf, qI i, y] [] (qT0, m, r) (fun w σ => ∃ m', σ = (qT0, m', r) ∧ w = qI (qTxt ps (qNv vs x) (fs.drop i) u lf l).length ∧ qRw m' 3 (qTxt ps (qNv vs x) (fs.drop i) u lf l) ∧ qFr (qPz 3) m m') := by
  intro k
  induction k with
  | zero =>
    intro i u lf l y m hik hlf hlv hn hF hP hl hle
    rw [qdrop_nil (by omega)] at hle ⊢
    simp only [qTxt] at hle ⊢
    simp only [List.length_append, List.length_cons, List.length_nil] at hle
    have hc1 : (l ++ (qClo ps 3 u (-9)).1).length = l.length + (qClo ps 3 u (-9)).1.length := by simp
    refine qr_il rfl rfl (w := ?_)
    refine qr_al rfl rfl (w := ?_)
    refine qr_callP rfl (sForm_size hz hF) (qrcv1 hz.1) (w := ?_)
    refine qr_icge rfl (fun hc => ?_) (fun hc => absurd hc (by omega))
    refine qr_al rfl rfl (w := ?_)
    refine qr_il rfl rfl (w := ?_)
    refine qr_const rfl (w := ?_)
    refine qr_callA rfl (sLR_writeClosings (p := u) (u := -9) h hl hP (by rw [List.length_append]; omega)) (qrcv1 kd_0) (w := fun _ σ hσ => ?_)
    obtain ⟨m1, rfl, rfl, hl1, hf1⟩ := hσ
    refine qr_pop rfl (w := ?_)
    refine qr_al rfl rfl (w := ?_)
    refine qr_gr rfl kd_0 (hr := (rf_7_1 h)) (w := ?_)
    refine qr_const rfl (w := ?_)
    refine qr_callV rfl (sRow_add (kLine h) hl1 (by omega)) (qrcv1 (kLine h).1) (w := fun _ σ hσ => ?_)
    obtain ⟨m2, rfl, hl2, hf2⟩ := hσ
    refine qr_al rfl rfl (w := ?_)
    refine qr_gr rfl kd_0 (hr := (rf_7_1 h)) (w := ?_)
    refine qr_callP rfl (sRow_len (kLine h) hl2) (qrcv1 (kLine h).1) (w := ?_)
    refine qW_ireturn rfl ?_
    exact ⟨_, rfl, rfl, hl2, qFr_tr hf1 hf2⟩
  | succ k ih =>
    intro i u lf l y m hik hlf hlv hn hF hP hl hle
    rw [qdrop (by omega)] at hle hlv ⊢
    simp only [qTxt] at hle ⊢
    simp only [qLv] at hlv
    have hfi := hfs fs[i] (List.getElem_mem _)
    have ha : qAt fs i = fs[i] := qAt_lt (by omega)
    have nP : ∀ a, 6 < a → a < 6 + 5 → ¬ qPz 3 a := by intro a g1 g2; show ¬ (a = 3 ∨ a = 4); omega
    have nS : ∀ a, 144 ≤ a → a < 144 + 5 → ¬ qPz 3 a := by intro a g1 g2; show ¬ (a = 3 ∨ a = 4); omega
    have nF : ∀ a, z ≤ a → ¬ qPz 3 a := by intro a g1; show ¬ (a = 3 ∨ a = 4); omega
    have hlv2 := qLv_le (fs.drop (i + 1))
    have hlq := qLv_le fs
    have h26 := hF.2.2
    have hle1 : (l ++ (qClo ps 3 u (qOu ps (qPa fs[i]))).1).length ≤ 100 ∧ (qNam ps (qPa fs[i]) (l ++ (qClo ps 3 u (qOu ps (qPa fs[i]))).1)).length ≤ 100 := by
      have h1 := qNam_le ps (qPa fs[i]) (l ++ (qClo ps 3 u (qOu ps (qPa fs[i]))).1)
      split at hle
      · have h2 := qTxt_le ps (qNv vs x) (fs.drop (i + 1)) (qPa fs[i]) lf (qNam ps (qPa fs[i]) (l ++ (qClo ps 3 u (qOu ps (qPa fs[i]))).1) ++ [123])
        rw [List.length_append] at h2
        omega
      · have h2 := qTxt_le ps (qNv vs x) (fs.drop (i + 1)) (qClo ps 3 u (qOu ps (qPa fs[i]))).2 (lf + 1) (qNam ps (qPa fs[i]) (l ++ (qClo ps 3 u (qOu ps (qPa fs[i]))).1) ++ qNv vs x lf)
        rw [List.length_append] at h2
        omega
    refine qr_il rfl rfl (w := ?_)
    refine qr_al rfl rfl (w := ?_)
    refine qr_callP rfl (sForm_size hz hF) (qrcv1 hz.1) (w := ?_)
    refine qr_icge rfl (fun hc => absurd hc (by omega)) (fun hc => ?_)
    refine qr_al rfl rfl (w := ?_)
    refine qr_il rfl rfl (w := ?_)
    refine qr_callP rfl (sForm_pathAt hz hF (by rw [ha]; exact hfi.2)) (qrcv1 hz.1) (w := ?_)
    rw [ha]
    refine qr_is6 rfl (w := ?_)
    refine qr_al rfl rfl (w := ?_)
    refine qr_il rfl rfl (w := ?_)
    refine qr_al rfl rfl (w := ?_)
    refine qr_gr rfl kd_0 (hr := (rf_7_3 h)) (w := ?_)
    refine qr_il rfl rfl (w := ?_)
    refine qr_callP rfl (sPaths_outerOf (kPaths h) hP) (qrcv1 kd_6) (w := ?_)
    refine qr_callA rfl (sLR_writeClosings h hl hP hle1.1) (qrcv1 kd_0) (w := fun _ σ hσ => ?_)
    obtain ⟨m1, rfl, rfl, hl1, hf1⟩ := hσ
    have hP1 := qPh_fr hP hf1 nP
    have hF1 := qFm_fr hF hf1 (nF _ (by omega)) (nF _ (by omega)) (nF _ (by omega))
    have hn1 := qSc_fr hn hf1 nS
    refine qr_is3 rfl (w := ?_)
    refine qr_al rfl rfl (w := ?_)
    refine qr_il rfl rfl (w := ?_)
    refine qr_callV rfl (sLR_writeName h hl1 hP1 hle1.2) (qrcv1 kd_0) (w := fun _ σ hσ => ?_)
    obtain ⟨m2, rfl, hl2, hf2⟩ := hσ
    have hP2 := qPh_fr hP1 hf2 nP
    have hF2 := qFm_fr hF1 hf2 (nF _ (by omega)) (nF _ (by omega)) (nF _ (by omega))
    have hn2 := qSc_fr hn1 hf2 nS
    refine qr_al rfl rfl (w := ?_)
    refine qr_il rfl rfl (w := ?_)
    refine qr_callP rfl (sForm_isBranchAt hz hF2) (qrcv1 hz.1) (w := ?_)
    rw [ha]
    refine qr_ifeqB rfl (fun hcf => ?_) (fun hcf => ?_)
    · refine qr_il rfl rfl (w := ?_)
      refine qr_const rfl (w := ?_)
      refine qr_iceq rfl (fun hcft => ?_) (fun hcft => ?_)
      · refine qr_inc4 rfl (by omega) (w := ?_)
        refine qr_inc5 rfl (by omega) (w := ?_)
        refine qr_goto rfl (w := ?_)
        have hb : ¬ 100 ≤ fs[i] := of_decide_eq_false hcf
        rw [if_neg hb] at hle ⊢
        rw [if_pos (by omega)] at hlv
        have hnv : qNv vs x lf = [] := by unfold qNv; rw [if_pos hcft]
        rw [hnv, List.append_nil] at hle ⊢
        refine qW_mono (ih (i + 1) (qClo ps 3 u (qOu ps (qPa fs[i]))).2 (lf + 1) _ _ m2 (by omega) (by omega) (by omega) hn2 hF2 hP2 hl2 hle) (fun w σ hw => ?_)
        obtain ⟨m9, rfl, rfl, g1, g2⟩ := hw
        exact ⟨m9, rfl, rfl, g1, qFr_tr hf1 (qFr_tr hf2 g2)⟩
      · refine qr_al rfl rfl (w := ?_)
        refine qr_al rfl rfl (w := ?_)
        refine qr_gr rfl kd_0 (hr := (rf_7_6 h)) (w := ?_)
        refine qr_il rfl rfl (w := ?_)
        refine qr_il rfl rfl (w := ?_)
        have hxr : 0 ≤ x ∧ x < 30 := by omega
        have hb : ¬ 100 ≤ fs[i] := of_decide_eq_false hcf
        rw [if_neg hb] at hle ⊢
        rw [if_pos (by omega)] at hlv
        have hvv := hv hcft lf hlf (by omega)
        refine qr_callP rfl (sState_valueAt (i := x) (j := lf) (kState h) hn2 (by omega) (by omega)) (qrcv1 kd_144) (w := ?_)
        have hnv : qNv vs x lf = qNum (qAt vs (x * 10 + lf)) := by unfold qNv; rw [if_neg hcft]
        rw [hnv] at hle ⊢
        have hl9 := qTxt_le ps (qNv vs x) (fs.drop (i + 1)) (qClo ps 3 u (qOu ps (qPa fs[i]))).2 (lf + 1) (qNam ps (qPa fs[i]) (l ++ (qClo ps 3 u (qOu ps (qPa fs[i]))).1) ++ qNum (qAt vs (x * 10 + lf)))
        refine qr_callV rfl (sLR_writeNumber h hvv hl2 (by omega)) (qrcv1 kd_0) (w := fun _ σ hσ => ?_)
        obtain ⟨m3, rfl, hl3, hf3⟩ := hσ
        have hP3 := qPh_fr hP2 hf3 nP
        have hF3 := qFm_fr hF2 hf3 (nF _ (by omega)) (nF _ (by omega)) (nF _ (by omega))
        have hn3 := qSc_fr hn2 hf3 nS
        refine qr_inc4 rfl (by omega) (w := ?_)
        refine qr_inc5 rfl (by omega) (w := ?_)
        refine qr_goto rfl (w := ?_)
        refine qW_mono (ih (i + 1) (qClo ps 3 u (qOu ps (qPa fs[i]))).2 (lf + 1) _ _ m3 (by omega) (by omega) (by omega) hn3 hF3 hP3 hl3 hle) (fun w σ hw => ?_)
        obtain ⟨m9, rfl, rfl, g1, g2⟩ := hw
        exact ⟨m9, rfl, rfl, g1, qFr_tr hf1 (qFr_tr hf2 (qFr_tr hf3 g2))⟩
    · refine qr_al rfl rfl (w := ?_)
      refine qr_gr rfl kd_0 (hr := (rf_7_1 h)) (w := ?_)
      refine qr_const rfl (w := ?_)
      have hb : 100 ≤ fs[i] := of_decide_eq_true hcf
      rw [if_pos hb] at hle ⊢
      rw [if_neg (by omega)] at hlv
      have hl9 := qTxt_le ps (qNv vs x) (fs.drop (i + 1)) (qPa fs[i]) lf (qNam ps (qPa fs[i]) (l ++ (qClo ps 3 u (qOu ps (qPa fs[i]))).1) ++ [123])
      rw [List.length_append] at hl9
      simp only [List.length_cons, List.length_nil] at hl9
      refine qr_callV rfl (sRow_add (kLine h) hl2 (by omega)) (qrcv1 (kLine h).1) (w := fun _ σ hσ => ?_)
      obtain ⟨m3, rfl, hl3, hf3⟩ := hσ
      have hP3 := qPh_fr hP2 hf3 nP
      have hF3 := qFm_fr hF2 hf3 (nF _ (by omega)) (nF _ (by omega)) (nF _ (by omega))
      have hn3 := qSc_fr hn2 hf3 nS
      refine qr_il rfl rfl (w := ?_)
      refine qr_is3 rfl (w := ?_)
      refine qr_goto rfl (w := ?_)
      refine qr_inc5 rfl (by omega) (w := ?_)
      refine qr_goto rfl (w := ?_)
      refine qW_mono (ih (i + 1) (qPa fs[i]) lf _ _ m3 (by omega) (by omega) (by omega) hn3 hF3 hP3 hl3 hle) (fun w σ hw => ?_)
      obtain ⟨m9, rfl, rfl, g1, g2⟩ := hw
      exact ⟨m9, rfl, rfl, g1, qFr_tr hf1 (qFr_tr hf2 (qFr_tr hf3 g2))⟩
/-- the text of a form, with the numbers of a record or none -/
def qText (ps : List (Int × Int)) (nv : Int → List Int) (fs : List Int) : List Int := qTxt ps nv fs (-9) 0 [123]
theorem sLR_writeText (h : qE r) {rs vs : List Int} {pk sk bd : Int} {ps : List (Int × Int)} {z : Nat} {fs l0 : List Int} {x : Int} (hz : qForm qT0 r z) (hzd : 5 ≤ z) (hzd2 : z < 144 ∨ 149 ≤ z) (hfs : ∀ f ∈ fs, 0 ≤ f ∧ f < 1000) (hx : x = -9 ∨ (0 ≤ x ∧ x < 30)) (hv : x ≠ -9 → ∀ j : Int, 0 ≤ j → j < qLv fs → 0 ≤ qAt vs (x * 10 + j) ∧ qAt vs (x * 10 + j) ≤ 999) (hn : qSc m 144 rs vs pk sk bd) (hF : qFm m z fs) (hP : qPh m 6 ps) (hl : qRw m 3 l0) (hle : (qText ps (qNv vs x) fs).length ≤ 100) : qW m_LR_writeText 0 [qK 0, qK z, qI x, none, none, none, none] [] (qT0, m, r) (fun w σ => ∃ m', σ = (qT0, m', r) ∧ w = qI (qText ps (qNv vs x) fs).length ∧ qRw m' 3 (qText ps (qNv vs x) fs) ∧ qFr (qPz 3) m m') := by
  have nP : ∀ a, 6 < a → a < 6 + 5 → ¬ qPz 3 a := by intro a g1 g2; show ¬ (a = 3 ∨ a = 4); omega
  have nS : ∀ a, 144 ≤ a → a < 144 + 5 → ¬ qPz 3 a := by intro a g1 g2; show ¬ (a = 3 ∨ a = 4); omega
  have nF : ∀ a, z ≤ a → ¬ qPz 3 a := by intro a g1; show ¬ (a = 3 ∨ a = 4); omega
  refine qr_al rfl rfl (w := ?_)
  refine qr_gr rfl kd_0 (hr := (rf_7_1 h)) (w := ?_)
  refine qr_const rfl (w := ?_)
  refine qr_callV rfl (sRow_cut (k := 0) (kLine h) hl) (qrcv1 (kLine h).1) (w := fun _ σ hσ => ?_)
  obtain ⟨m1, rfl, hl1, hf0⟩ := hσ
  have hf1 : qFr (qPz 3) m m1 := qFr_mo hf0 (fun a ha => Or.inl ha)
  rw [List.take_zero] at hl1
  have hP1 := qPh_fr hP hf1 nP
  have hF1 := qFm_fr hF hf1 (nF _ (by omega)) (nF _ (by omega)) (nF _ (by omega))
  have hn1 := qSc_fr hn hf1 nS
  refine qr_al rfl rfl (w := ?_)
  refine qr_gr rfl kd_0 (hr := (rf_7_1 h)) (w := ?_)
  refine qr_const rfl (w := ?_)
  refine qr_callV rfl (sRow_add (kLine h) hl1 (by decide)) (qrcv1 (kLine h).1) (w := fun _ σ hσ => ?_)
  obtain ⟨m2, rfl, hl2, hf2⟩ := hσ
  have hP2 := qPh_fr hP1 hf2 nP
  have hF2 := qFm_fr hF1 hf2 (nF _ (by omega)) (nF _ (by omega)) (nF _ (by omega))
  have hn2 := qSc_fr hn1 hf2 nS
  refine qr_const rfl (w := ?_)
  refine qr_is3 rfl (w := ?_)
  refine qr_const rfl (w := ?_)
  refine qr_is4 rfl (w := ?_)
  refine qr_const rfl (w := ?_)
  refine qr_is5 rfl (w := ?_)
  refine qW_mono (sLR_writeText_loop h hz hzd hzd2 hfs hx hv fs.length 0 (-9) 0 [123] none m2 (by omega) (by omega) (by rw [List.drop_zero]; omega) hn2 hF2 hP2 hl2 (by rw [List.drop_zero]; exact hle)) (fun w σ hw => ?_)
  obtain ⟨m9, rfl, rfl, g1, g2⟩ := hw
  exact ⟨m9, rfl, rfl, g1, qFr_tr hf1 (qFr_tr hf2 g2)⟩
