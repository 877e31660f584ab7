/-! Reading a text; a new shape; what a drop leaves -/
variable {m : Nat → Int → Int} {r : Nat → Int → Option Nat}
def qGo : List Int → qRd → Nat → Nat × qRd
  | [], s, a => (a, s)
  | c :: t, s, a => if (qTk s c).1 = true then qGo t (qTk s c).2 (a + 1) else (a, (qTk s c).2)
theorem sLR_takeText_loop (h : qE r) {tx : List Int} (htx : tx.length ≤ 80) {I : Nat → qRd → Prop} (hI1 : ∀ i s, I i s → i < tx.length → qRp s) (hI2 : ∀ (i : Nat) (s : qRd) (hi : i < tx.length), I i s → (qTk s tx[i]).1 = true → I (i + 1) (qTk s tx[i]).2) :
    ∀ (k i : Nat) (s : qRd) (m : Nat → Int → Int), i + k = tx.length → I i s → qRw m 1 tx → qRg m s → qW m_LR_takeText 2 [qK 0, qI i] [] (qT0, m, r) (fun x σ => ∃ m', σ = (qT0, m', r) ∧ x = qI (qGo (tx.drop i) s i).1 ∧ qRg m' (qGo (tx.drop i) s i).2 ∧ qFr (qIv 5 16) m m') := by
  intro k
  induction k with
  | zero =>
    intro i s m hik hI hl hs
    rw [qdrop_nil (by omega)]
    refine qr_il rfl rfl (w := ?_)
    refine qr_al rfl rfl (w := ?_)
    refine qr_gr rfl kd_0 (hr := (rf_7_0 h)) (w := ?_)
    refine qr_callP rfl (sRow_len (kText h) hl) (qrcv1 (kText h).1) (w := ?_)
    refine qr_icge rfl (fun hc => ?_) (fun hc => absurd hc (by omega))
    refine qr_al rfl rfl (w := ?_)
    refine qr_gr rfl kd_0 (hr := (rf_7_0 h)) (w := ?_)
    refine qr_callP rfl (sRow_len (kText h) hl) (qrcv1 (kText h).1) (w := ?_)
    refine qW_ireturn rfl ?_
    exact ⟨m, rfl, congrArg qI (by simp only [qGo]; omega), hs, qFr_rf⟩
  | succ k ih =>
    intro i s m hik hI hl hs
    rw [qdrop (by omega)]
    simp only [qGo]
    have hp := hI1 i s hI (by omega)
    refine qr_il rfl rfl (w := ?_)
    refine qr_al rfl rfl (w := ?_)
    refine qr_gr rfl kd_0 (hr := (rf_7_0 h)) (w := ?_)
    refine qr_callP rfl (sRow_len (kText h) hl) (qrcv1 (kText h).1) (w := ?_)
    refine qr_icge rfl (fun hc => absurd hc (by omega)) (fun hc => ?_)
    refine qr_al rfl rfl (w := ?_)
    refine qr_gr rfl kd_0 (hr := (rf_7_2 h)) (w := ?_)
    refine qr_al rfl rfl (w := ?_)
    refine qr_gr rfl kd_0 (hr := (rf_7_0 h)) (w := ?_)
    refine qr_il rfl rfl (w := ?_)
    refine qr_callP rfl (sRow_at (kText h) hl htx) (qrcv1 (kText h).1) (w := ?_)
    rw [qAt_lt (by omega)]
    refine qr_callA rfl (sRdg_take (ps := s.1) (fs := s.2.1) (ns := s.2.2.1) (st := s.2.2.2.1) (lv := s.2.2.2.2.1) (op := s.2.2.2.2.2.1) (nm := s.2.2.2.2.2.2) (c := tx[i]) h hs hp) (qrcv1 kd_5) (w := fun _ σ hσ => ?_)
    obtain ⟨m1, rfl, rfl, hs1, hf1⟩ := hσ
    have hl1 : qRw m1 1 tx := qRw_fr hl hf1 (by decide) (by decide)
    refine qr_ifneB rfl (fun hcf => ?_) (fun hcf => ?_)
    · refine qr_inc1 rfl (by omega) (w := ?_)
      refine qr_goto rfl (w := ?_)
      have hcf2 : (qTk s tx[i]).1 = true := hcf
      rw [if_pos hcf2]
      refine qW_mono (ih (i + 1) (qTk s tx[i]).2 m1 (by omega) (hI2 i s (by omega) hI hcf2) hl1 hs1) (fun x σ hx => ?_)
      obtain ⟨m2, rfl, rfl, g1, g2⟩ := hx
      exact ⟨m2, rfl, rfl, g1, qFr_tr hf1 g2⟩
    · refine qr_il rfl rfl (w := ?_)
      refine qW_ireturn rfl ?_
      have hcf2 : (qTk s tx[i]).1 = false := hcf
      rw [if_neg (by rw [hcf2]; decide)]
      exact ⟨m1, rfl, rfl, hs1, hf1⟩
theorem sLR_takeText (h : qE r) {tx : List Int} (htx : tx.length ≤ 80) {I : Nat → qRd → Prop} (hI1 : ∀ i s, I i s → i < tx.length → qRp s) (hI2 : ∀ (i : Nat) (s : qRd) (hi : i < tx.length), I i s → (qTk s tx[i]).1 = true → I (i + 1) (qTk s tx[i]).2) {s : qRd} (hI : I 0 s) (hl : qRw m 1 tx) (hs : qRg m s) : qW m_LR_takeText 0 [qK 0, none] [] (qT0, m, r) (fun x σ => ∃ m', σ = (qT0, m', r) ∧ x = qI (qGo tx s 0).1 ∧ qRg m' (qGo tx s 0).2 ∧ qFr (qIv 5 16) m m') := by
  refine qr_const rfl (w := ?_)
  refine qr_is1 rfl (w := ?_)
  exact sLR_takeText_loop h htx hI1 hI2 tx.length 0 s m (by omega) hI hl hs
/-- the shapes with one more if need be -/
def qLs (ss : List (List Int)) (sh : Nat) (fs : List Int) : List (List Int) := if sh = ss.length then ss ++ [fs] else ss
theorem sLR_learnShape (h : qE r) {rs vs : List Int} {pk bd : Int} {ss : List (List Int)} {sh : Nat} {z : Nat} {fs : List Int} (hn : qSc m 144 rs vs pk ss.length bd) (hS : qSh m ss) (hz : qForm qT0 r z) (hF : qFm m z fs) (hd : z + 3 ≤ 18 ∨ (141 ≤ z ∧ z + 3 ≤ 144)) (hsh : sh = ss.length → ss.length < 40) : qW m_LR_learnShape 0 [qK 0, qI sh, qK z] [] (qT0, m, r) (fun _ σ => ∃ m', σ = (qT0, m', r) ∧ qSc m' 144 rs vs pk (qLs ss sh fs).length bd ∧ qSh m' (qLs ss sh fs) ∧ qFr (fun a => (18 ≤ a ∧ a < 138) ∨ a = 144) m m') := by
  have e3 := hn.2.2.2.1
  have h40 := hS.1
  unfold qLs
  refine qr_il rfl rfl (w := ?_)
  refine qr_al rfl rfl (w := ?_)
  refine qr_gr rfl kd_0 (hr := (rf_7_6 h)) (w := ?_)
  refine qr_gi rfl kd_144 (w := ?_)
  refine qr_icne rfl (fun hc => ?_) (fun hc => ?_)
  · first
      | (rw [e3] at hc
         refine qW_return rfl ⟨m, rfl, ?_, ?_, qFr_rf⟩
         · rw [if_neg (by omega)]; exact hn
         · rw [if_neg (by omega)]; exact hS)
      | (have up : qFr (fun a => a = 144) m1 (qup m1 144 3 (m1 144 3 + 1)) := qFr_up rfl
         refine qW_return rfl ⟨_, rfl, ?_, ?_, qFr_tr (qFr_mo hf1 (fun a ha => Or.inl ⟨ha.1, ha.2⟩)) (qFr_mo up (fun a ha => Or.inr ha))⟩
         · rw [if_pos rfl]
           refine ⟨qRw_fr hn1.1 up (by decide) (by decide), qRw_fr hn1.2.1 up (by decide) (by decide), ?_, ?_, ?_, hn1.2.2.2.2.2⟩
           · rw [qup_i (by decide)]; exact hn1.2.2.1
           · rw [qup_s, hn1.2.2.2.1, List.length_append]; simp only [List.length_cons, List.length_nil]; omega
           · rw [qup_i (by decide)]; exact hn1.2.2.2.2.1
         · rw [if_pos rfl]
           exact qSh_fr hS1 up (fun a g1 g2 => by show ¬ a = 144; omega))
  · refine qr_al rfl rfl (w := ?_)
    refine qr_gr rfl kd_0 (hr := (rf_7_4 h)) (w := ?_)
    refine qr_il rfl rfl (w := ?_)
    refine qr_al rfl rfl (w := ?_)
    rw [e3] at hc
    have hse : sh = ss.length := by omega
    have hlt := hsh hse
    rw [hse]
    refine qr_callV rfl (sShapes_keep h hS hz hF (by omega) hlt) (qrcv1 kd_16) (w := fun _ σ hσ => ?_)
    obtain ⟨m1, rfl, hS1, hf1⟩ := hσ
    have hn1 := qSc_fr hn hf1 (fun a g1 g2 => by show ¬ (18 ≤ a ∧ a < 138); omega)
    refine qr_al rfl rfl (w := ?_)
    refine qr_gr rfl kd_0 (hr := (rf_7_6 h)) (w := ?_)
    refine qr_dup rfl (w := ?_)
    refine qr_gi rfl kd_144 (w := ?_)
    refine qr_const rfl (w := ?_)
    refine qr_add rfl (by rw [hn1.2.2.2.1]; omega) (w := ?_)
    refine qr_pi rfl kd_144 (w := ?_)
    first
      | (rw [e3] at hc
         refine qW_return rfl ⟨m, rfl, ?_, ?_, qFr_rf⟩
         · rw [if_neg (by omega)]; exact hn
         · rw [if_neg (by omega)]; exact hS)
      | (have up : qFr (fun a => a = 144) m1 (qup m1 144 3 (m1 144 3 + 1)) := qFr_up rfl
         refine qW_return rfl ⟨_, rfl, ?_, ?_, qFr_tr (qFr_mo hf1 (fun a ha => Or.inl ⟨ha.1, ha.2⟩)) (qFr_mo up (fun a ha => Or.inr ha))⟩
         · rw [if_pos rfl]
           refine ⟨qRw_fr hn1.1 up (by decide) (by decide), qRw_fr hn1.2.1 up (by decide) (by decide), ?_, ?_, ?_, hn1.2.2.2.2.2⟩
           · rw [qup_i (by decide)]; exact hn1.2.2.1
           · rw [qup_s, hn1.2.2.2.1, List.length_append]; simp only [List.length_cons, List.length_nil]; omega
           · rw [qup_i (by decide)]; exact hn1.2.2.2.2.1
         · rw [if_pos rfl]
           exact qSh_fr hS1 up (fun a g1 g2 => by show ¬ a = 144; omega))
/-- the fields that stay when d is dropped -/
def qRes (ps : List (Int × Int)) (d : Int) (fs : List Int) : List Int := fs.filter (fun f => !qWi ps 4 (qPa f) d)
theorem sLR_fillRemainder_loop (h : qE r) {ps : List (Int × Int)} {z : Nat} {fs : List Int} {d : Int} (hz : qForm qT0 r z) (hzd : z + 3 ≤ 141) (hfs : ∀ f ∈ fs, 0 ≤ f ∧ f < 1000) :
    ∀ (k i : Nat) (gs : List Int) (m : Nat → Int → Int), i + k = fs.length → gs.length ≤ i → qFm m z fs → qPh m 6 ps → qFm m 141 gs → qW m_LR_fillRemainder 9 [qK 0, qK z, qI d, qI i] [] (qT0, m, r) (fun _ σ => ∃ m', σ = (qT0, m', r) ∧ qFm m' 141 (gs ++ qRes ps d (fs.drop i)) ∧ qFr (qIv 141 144) m m') := by
  intro k
  induction k with
  | zero =>
    intro i gs m hik hgl hF hP hG
    rw [qdrop_nil (by omega)]
    refine qr_il rfl rfl (w := ?_)
    refine qr_al rfl rfl (w := ?_)
    refine qr_callP rfl (sForm_size hz hF) (qrcv1 hz.1) (w := ?_)
    refine qr_icge rfl (fun hc => ?_) (fun hc => absurd hc (by omega))
    refine qW_return rfl ?_
    exact ⟨m, rfl, by simpa [qRes] using hG, qFr_rf⟩
  | succ k ih =>
    intro i gs m hik hgl hF hP hG
    rw [qdrop (by omega)]
    have hfi := hfs fs[i] (List.getElem_mem _)
    have ha : qAt fs i = fs[i] := qAt_lt (by omega)
    have h26 := hF.2.2
    unfold qRes
    rw [List.filter_cons]
    refine qr_il rfl rfl (w := ?_)
    refine qr_al rfl rfl (w := ?_)
    refine qr_callP rfl (sForm_size hz hF) (qrcv1 hz.1) (w := ?_)
    refine qr_icge rfl (fun hc => absurd hc (by omega)) (fun hc => ?_)
    refine qr_al rfl rfl (w := ?_)
    refine qr_gr rfl kd_0 (hr := (rf_7_3 h)) (w := ?_)
    refine qr_al rfl rfl (w := ?_)
    refine qr_il rfl rfl (w := ?_)
    refine qr_callP rfl (sForm_pathAt hz hF (by rw [ha]; exact hfi.2)) (qrcv1 hz.1) (w := ?_)
    rw [ha]
    refine qr_il rfl rfl (w := ?_)
    refine qr_callP rfl (sPaths_isWithin (kPaths h) hP) (qrcv1 kd_6) (w := ?_)
    refine qr_ifneB rfl (fun hcf => ?_) (fun hcf => ?_)
    · refine qr_inc3 rfl (by omega) (w := ?_)
      refine qr_goto rfl (w := ?_)
      rw [if_neg (by rw [hcf]; decide)]
      exact ih (i + 1) gs m (by omega) (by omega) hF hP hG
    · refine qr_al rfl rfl (w := ?_)
      refine qr_gr rfl kd_0 (hr := (rf_7_5 h)) (w := ?_)
      refine qr_al rfl rfl (w := ?_)
      refine qr_il rfl rfl (w := ?_)
      refine qr_callP rfl (sForm_at hz hF) (qrcv1 hz.1) (w := ?_)
      rw [ha]
      refine qr_callV rfl (sForm_add (kRem h) hG (by have := hF.2.2; omega)) (qrcv1 kd_141) (w := fun _ σ hσ => ?_)
      obtain ⟨m1, rfl, hG1, hf1⟩ := hσ
      have hF1 := qFm_fr hF hf1 (by show ¬ (141 ≤ z ∧ z < 144); omega) (by show ¬ (141 ≤ z + 1 ∧ z + 1 < 144); omega) (by show ¬ (141 ≤ z + 2 ∧ z + 2 < 144); omega)
      have hP1 := qPh_fr hP hf1 (fun a g1 g2 => by show ¬ (141 ≤ a ∧ a < 144); omega)
      refine qr_inc3 rfl (by omega) (w := ?_)
      refine qr_goto rfl (w := ?_)
      rw [if_pos (by rw [hcf]; rfl)]
      refine qW_mono (ih (i + 1) (gs ++ [fs[i]]) m1 (by omega) (by simp; omega) hF1 hP1 hG1) (fun x σ hx => ?_)
      obtain ⟨m2, rfl, g1, g2⟩ := hx
      refine ⟨m2, rfl, ?_, qFr_tr hf1 g2⟩
      rw [List.append_assoc] at g1
      exact g1
theorem sLR_fillRemainder (h : qE r) {ps : List (Int × Int)} {z : Nat} {fs g0 : List Int} {d : Int} (hz : qForm qT0 r z) (hzd : z + 3 ≤ 141) (hfs : ∀ f ∈ fs, 0 ≤ f ∧ f < 1000) (hF : qFm m z fs) (hP : qPh m 6 ps) (hG : qFm m 141 g0) : qW m_LR_fillRemainder 0 [qK 0, qK z, qI d, none] [] (qT0, m, r) (fun _ σ => ∃ m', σ = (qT0, m', r) ∧ qFm m' 141 (qRes ps d fs) ∧ qFr (qIv 141 144) m m') := by
  refine qr_al rfl rfl (w := ?_)
  refine qr_gr rfl kd_0 (hr := (rf_7_5 h)) (w := ?_)
  refine qr_callV rfl (sForm_clear (kRem h) hG) (qrcv1 kd_141) (w := fun _ σ hσ => ?_)
  obtain ⟨m1, rfl, hG1, hf1⟩ := hσ
  have hF1 := qFm_fr hF hf1 (by show ¬ (141 ≤ z ∧ z < 144); omega) (by show ¬ (141 ≤ z + 1 ∧ z + 1 < 144); omega) (by show ¬ (141 ≤ z + 2 ∧ z + 2 < 144); omega)
  have hP1 := qPh_fr hP hf1 (fun a g1 g2 => by show ¬ (141 ≤ a ∧ a < 144); omega)
  refine qr_const rfl (w := ?_)
  refine qr_is3 rfl (w := ?_)
  refine qW_mono (sLR_fillRemainder_loop h hz hzd hfs (d := d) fs.length 0 [] m1 (by omega) (by simp) hF1 hP1 hG1) (fun x σ hx => ?_)
  obtain ⟨m2, rfl, g1, g2⟩ := hx
  exact ⟨m2, rfl, g1, qFr_tr hf1 g2⟩
/-- the values that stay when d is dropped -/
def qDl (ps : List (Int × Int)) (d : Int) : List Int → List Int → List Int
  | [], _ => []
  | f :: t, V => if 100 ≤ f then qDl ps d t V else (if qWi ps 4 (qPa f) d = true then [] else [V.getD 0 0]) ++ qDl ps d t V.tail
theorem qAt_set {l : List Int} {a : Nat} {b x : Int} (ha : a < l.length) : qAt (l.set a x) b = if b = a then x else qAt l b := by
  unfold qAt
  rw [List.length_set]
  by_cases hb : b = a
  · subst hb
    rw [if_pos rfl, if_pos ⟨by omega, by omega⟩, Int.toNat_natCast, List.getD_eq_getElem?_getD, List.getElem?_set_self ha]
    rfl
  · rw [if_neg hb]
    by_cases h0 : 0 ≤ b ∧ b < l.length
    · rw [if_pos h0, if_pos h0, List.getD_eq_getElem?_getD, List.getElem?_set_ne (by omega), List.getD_eq_getElem?_getD]
    · rw [if_neg h0, if_neg h0]
/-- a record's values stand in the row -/
def qVr (vs : List Int) (x : Nat) (L : List Int) : Prop := ∀ j : Nat, j < L.length → qAt vs (10 * x + j) = L.getD j 0
theorem sLR_dropValues_loop (h : qE r) {ps : List (Int × Int)} {z x : Nat} {fs V rs vs0 : List Int} {pk sk bd d : Int} (hz : qForm qT0 r z) (hzd : z + 3 ≤ 141) (hfs : ∀ f ∈ fs, 0 ≤ f ∧ f < 1000) (hx : x < rs.length) (hV : (V.length : Int) = qLv fs) (hV10 : V.length ≤ 10) :
    ∀ (k i lf : Nat) (B vs : List Int) (m : Nat → Int → Int), i + k = fs.length → (lf : Int) + qLv (fs.drop i) = qLv fs → B.length ≤ lf → qFm m z fs → qPh m 6 ps → qSc m 144 rs vs pk sk bd → qVr vs x B → (∀ j : Nat, lf ≤ j → j < V.length → qAt vs (10 * x + j) = V.getD j 0) → (∀ a : Int, a < 10 * x ∨ 10 * x + 10 ≤ a → qAt vs a = qAt vs0 a) →
      qW m_LR_dropValues 9 [qK 0, qI x, qK z, qI d, qI lf, qI B.length, qI i] [] (qT0, m, r) (fun _ σ => ∃ m' vs', σ = (qT0, m', r) ∧ qSc m' 144 rs vs' pk sk bd ∧ qVr vs' x (B ++ qDl ps d (fs.drop i) (V.drop lf)) ∧ (∀ a : Int, a < 10 * x ∨ 10 * x + 10 ≤ a → qAt vs' a = qAt vs0 a) ∧ qFr (qIv 147 149) m m') := by
  intro k
  induction k with
  | zero =>
    intro i lf B vs m hik hlf hBl hF hP hn hB hR hO
    rw [qdrop_nil (by omega)]
    refine qr_il rfl rfl (w := ?_)
    refine qr_al rfl rfl (w := ?_)
    refine qr_callP rfl (sForm_size hz hF) (qrcv1 hz.1) (w := ?_)
    refine qr_icge rfl (fun hc => ?_) (fun hc => absurd hc (by omega))
    refine qW_return rfl ?_
    exact ⟨m, vs, rfl, hn, by simpa [qDl] using hB, hO, qFr_rf⟩
  | succ k ih =>
    intro i lf B vs m hik hlf hBl hF hP hn hB hR hO
    rw [qdrop (by omega)] at hlf ⊢
    simp only [qLv] at hlf
    simp only [qDl]
    have hfi := hfs fs[i] (List.getElem_mem _)
    have ha : qAt fs i = fs[i] := qAt_lt (by omega)
    have hlv2 := qLv_le (fs.drop (i + 1))
    have h26 := hF.2.2
    have h30 := hn.2.2.2.2.2.1
    have hvl := hn.2.2.2.2.2.2
    refine qr_il rfl rfl (w := ?_)
    refine qr_al rfl rfl (w := ?_)
    refine qr_callP rfl (sForm_size hz hF) (qrcv1 hz.1) (w := ?_)
    refine qr_icge rfl (fun hc => absurd hc (by omega)) (fun hc => ?_)
    refine qr_al rfl rfl (w := ?_)
    refine qr_il rfl rfl (w := ?_)
    refine qr_callP rfl (sForm_isBranchAt hz hF) (qrcv1 hz.1) (w := ?_)
    rw [ha]
    refine qr_ifneB rfl (fun hcf => ?_) (fun hcf => ?_)
    · refine qr_inc6 rfl (by omega) (w := ?_)
      refine qr_goto rfl (w := ?_)
      have hb : 100 ≤ fs[i] := of_decide_eq_true hcf
      rw [if_neg (by omega)] at hlf
      rw [if_pos hb]
      exact ih (i + 1) lf B vs m (by omega) (by omega) hBl hF hP hn hB hR hO
    · refine qr_al rfl rfl (w := ?_)
      refine qr_gr rfl kd_0 (hr := (rf_7_3 h)) (w := ?_)
      refine qr_al rfl rfl (w := ?_)
      refine qr_il rfl rfl (w := ?_)
      refine qr_callP rfl (sForm_pathAt hz hF (by rw [ha]; exact hfi.2)) (qrcv1 hz.1) (w := ?_)
      rw [ha]
      refine qr_il rfl rfl (w := ?_)
      refine qr_callP rfl (sPaths_isWithin (kPaths h) hP) (qrcv1 kd_6) (w := ?_)
      refine qr_ifneB rfl (fun hcff => ?_) (fun hcff => ?_)
      · refine qr_inc4 rfl (by omega) (w := ?_)
        refine qr_inc6 rfl (by omega) (w := ?_)
        refine qr_goto rfl (w := ?_)
        have hb : ¬ 100 ≤ fs[i] := of_decide_eq_false hcf
        rw [if_pos (by omega)] at hlf
        have hlV : lf < V.length := by omega
        rw [if_neg hb, if_pos hcff, List.nil_append, List.tail_drop]
        exact ih (i + 1) (lf + 1) B vs m (by omega) (by omega) (by omega) hF hP hn hB (fun j hl hj => hR j (by omega) hj) hO
      · refine qr_al rfl rfl (w := ?_)
        refine qr_gr rfl kd_0 (hr := (rf_7_6 h)) (w := ?_)
        refine qr_il rfl rfl (w := ?_)
        refine qr_il rfl rfl (w := ?_)
        refine qr_al rfl rfl (w := ?_)
        refine qr_gr rfl kd_0 (hr := (rf_7_6 h)) (w := ?_)
        refine qr_il rfl rfl (w := ?_)
        refine qr_il rfl rfl (w := ?_)
        have hb : ¬ 100 ≤ fs[i] := of_decide_eq_false hcf
        rw [if_pos (by omega)] at hlf
        have hlV : lf < V.length := by omega
        refine qr_callP rfl (sState_valueAt (i := x) (j := lf) (kState h) hn (by omega) (by omega)) (qrcv1 kd_144) (w := ?_)
        rw [show ((x : Int) * 10 + lf) = 10 * x + lf by omega, hR lf (Nat.le_refl _) hlV]
        refine qr_callV rfl (sState_setValue (i := x) (j := B.length) (x := V.getD lf 0) (kState h) hn hx (by omega)) (qrcv1 kd_144) (w := fun _ σ hσ => ?_)
        obtain ⟨m1, rfl, hn1, hf1⟩ := hσ
        rw [Int.toNat_natCast] at hn1
        have hF1 := qFm_fr hF hf1 (by show ¬ (147 ≤ z ∧ z < 149); omega) (by show ¬ (147 ≤ z + 1 ∧ z + 1 < 149); omega) (by show ¬ (147 ≤ z + 2 ∧ z + 2 < 149); omega)
        have hP1 := qPh_fr hP hf1 (fun a g1 g2 => by show ¬ (147 ≤ a ∧ a < 149); omega)
        refine qr_inc5 rfl (by omega) (w := ?_)
        refine qr_inc4 rfl (by omega) (w := ?_)
        refine qr_inc6 rfl (by omega) (w := ?_)
        refine qr_goto rfl (w := ?_)
        have hg : (V.drop lf).getD 0 0 = V.getD lf 0 := by rw [List.getD_eq_getElem?_getD, List.getElem?_drop, Nat.add_zero, List.getD_eq_getElem?_getD]
        rw [if_neg hb, if_neg (by rw [hcff]; decide), hg, List.tail_drop, ← List.append_assoc]
        have hbx : x * 10 + B.length < vs.length := by omega
        have hbl : B.length + 1 = (B ++ [(V.getD lf 0)]).length := by simp
        have h1 := ih (i + 1) (lf + 1) (B ++ [(V.getD lf 0)]) (vs.set (x * 10 + B.length) (V.getD lf 0)) m1 (by omega) (by omega) (by rw [← hbl]; omega) hF1 hP1 hn1 (fun j hj => by
          rw [← hbl] at hj
          rw [qAt_set hbx]
          by_cases hje : j = B.length
          · subst hje
            rw [if_pos (by omega), List.getD_eq_getElem?_getD (l := B ++ _), List.getElem?_append_right (by omega)]
            simp
          · rw [if_neg (by omega), List.getD_eq_getElem?_getD, List.getElem?_append_left (by omega), hB j (by omega), List.getD_eq_getElem?_getD]) (fun j hl hj => by
          rw [qAt_set hbx, if_neg (by omega)]
          exact hR j (by omega) hj) (fun a hao => by
          rw [qAt_set hbx, if_neg (by omega)]
          exact hO a hao)
        rw [← hbl] at h1
        refine qW_mono h1 (fun y σ hy => ?_)
        obtain ⟨m2, vs2, rfl, g1, g2, g3, g4⟩ := hy
        exact ⟨m2, vs2, rfl, g1, g2, g3, qFr_tr (qFr_mo hf1 (fun a ha => ⟨ha.1, ha.2⟩)) g4⟩
theorem sLR_dropValues (h : qE r) {ps : List (Int × Int)} {z x : Nat} {fs V rs vs : List Int} {pk sk bd d : Int} (hz : qForm qT0 r z) (hzd : z + 3 ≤ 141) (hfs : ∀ f ∈ fs, 0 ≤ f ∧ f < 1000) (hx : x < rs.length) (hV : (V.length : Int) = qLv fs) (hV10 : V.length ≤ 10) (hF : qFm m z fs) (hP : qPh m 6 ps) (hn : qSc m 144 rs vs pk sk bd) (hR : qVr vs x V) :
    qW m_LR_dropValues 0 [qK 0, qI x, qK z, qI d, none, none, none] [] (qT0, m, r) (fun _ σ => ∃ m' vs', σ = (qT0, m', r) ∧ qSc m' 144 rs vs' pk sk bd ∧ qVr vs' x (qDl ps d fs V) ∧ (∀ a : Int, a < 10 * x ∨ 10 * x + 10 ≤ a → qAt vs' a = qAt vs a) ∧ qFr (qIv 147 149) m m') := by
  refine qr_const rfl (w := ?_)
  refine qr_is4 rfl (w := ?_)
  refine qr_const rfl (w := ?_)
  refine qr_is5 rfl (w := ?_)
  refine qr_const rfl (w := ?_)
  refine qr_is6 rfl (w := ?_)
  exact sLR_dropValues_loop h hz hzd hfs hx hV hV10 fs.length 0 0 [] vs m (by omega) (by rw [List.drop_zero]; omega) (by simp) hF hP hn (fun j hj => absurd hj (by simp)) (fun j _ hj => hR j hj) (fun _ _ => rfl)
