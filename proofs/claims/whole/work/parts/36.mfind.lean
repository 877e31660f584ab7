/-! The reference: within, rows, finding a shape -/
variable {m : Nat → Int → Int} {r : Nat → Int → Option Nat}
def qPth (ps : List (Int × Int)) : Prop := ∀ p : Int, qOu ps p = -9 ∨ (0 ≤ qOu ps p ∧ qOu ps p < ps.length)
theorem qPth_of {ps : List (Int × Int)} (h : qWp ps) : qPth ps := fun p => by
  have := qOu_rng h p
  omega
theorem mIsWithin_loop (h : qE r) {a : qAS} (hB : qMb (m 177) a) (hl : qMl a) (hP : qPth a.1) {p0 q : Int} (hq : 0 ≤ q) : ∀ (n : Nat) (x : Int), qDp a.1 n x → (x = -9 ∨ (0 ≤ x ∧ x < a.1.length)) → qP2 m_Mo_isWithin 2 [qK 176, qI p0, qI q, qI x] (qT0, m, r) (qI (qbi (qWi a.1 n x q))) := by
  intro n
  induction n with
  | zero =>
    intro x hd hx
    have e : x = -9 := hd
    subst e
    unfold qP2
    refine qr_il rfl rfl (w := ?_)
    refine qr_const rfl (w := ?_)
    refine qr_iceq rfl (fun hc => ?_) (fun hc => absurd hc (by omega))
    refine qr_il rfl rfl (w := ?_)
    refine qr_il rfl rfl (w := ?_)
    refine qr_icne rfl (fun hct => ?_) (fun hct => absurd hct (by omega))
    refine qr_const rfl (w := ?_)
    refine qW_zreturn rfl (by first | exact Or.inl rfl | exact Or.inr rfl | (simp only [qbi]; split <;> simp)) ?_
    exact ⟨rfl, rfl⟩
  | succ n ih =>
    intro x hd hx
    have hPx := hP x
    unfold qP2
    simp only [qWi]
    refine qr_il rfl rfl (w := ?_)
    refine qr_const rfl (w := ?_)
    refine qr_iceq rfl (fun hc => ?_) (fun hc => ?_)
    · refine qr_il rfl rfl (w := ?_)
      refine qr_il rfl rfl (w := ?_)
      refine qr_icne rfl (fun hct => ?_) (fun hct => ?_)
      · refine qr_const rfl (w := ?_)
        refine qW_zreturn rfl (by first | exact Or.inl rfl | exact Or.inr rfl | (simp only [qbi]; split <;> simp)) ?_
        first
          | (exfalso; omega)
          | (refine ⟨congrArg qI ?_, rfl⟩
             rw [if_pos (by omega)]
             rfl)
          | (refine ⟨congrArg qI ?_, rfl⟩
             rw [if_neg (by omega), if_pos (by omega)]
             rfl)
      · refine qr_const rfl (w := ?_)
        refine qr_goto rfl (w := ?_)
        refine qW_zreturn rfl (by first | exact Or.inl rfl | exact Or.inr rfl | (simp only [qbi]; split <;> simp)) ?_
        first
          | (exfalso; omega)
          | (refine ⟨congrArg qI ?_, rfl⟩
             rw [if_pos (by omega)]
             rfl)
          | (refine ⟨congrArg qI ?_, rfl⟩
             rw [if_neg (by omega), if_pos (by omega)]
             rfl)
    · refine qr_il rfl rfl (w := ?_)
      refine qr_il rfl rfl (w := ?_)
      refine qr_iceq rfl (fun hcf => ?_) (fun hcf => ?_)
      · refine qr_il rfl rfl (w := ?_)
        refine qr_il rfl rfl (w := ?_)
        refine qr_icne rfl (fun hcft => ?_) (fun hcft => ?_)
        · refine qr_const rfl (w := ?_)
          refine qW_zreturn rfl (by first | exact Or.inl rfl | exact Or.inr rfl | (simp only [qbi]; split <;> simp)) ?_
          first
            | (exfalso; omega)
            | (refine ⟨congrArg qI ?_, rfl⟩
               rw [if_pos (by omega)]
               rfl)
            | (refine ⟨congrArg qI ?_, rfl⟩
               rw [if_neg (by omega), if_pos (by omega)]
               rfl)
        · refine qr_const rfl (w := ?_)
          refine qr_goto rfl (w := ?_)
          refine qW_zreturn rfl (by first | exact Or.inl rfl | exact Or.inr rfl | (simp only [qbi]; split <;> simp)) ?_
          first
            | (exfalso; omega)
            | (refine ⟨congrArg qI ?_, rfl⟩
               rw [if_pos (by omega)]
               rfl)
            | (refine ⟨congrArg qI ?_, rfl⟩
               rw [if_neg (by omega), if_pos (by omega)]
               rfl)
      · refine qr_al rfl rfl (w := ?_)
        refine qr_il rfl rfl (w := ?_)
        refine qr_callP rfl (mInnerOf (p := x) h hB hl (by omega)) (qrcv1 kd_176) (w := ?_)
        refine qr_is3 rfl (w := ?_)
        refine qr_goto rfl (w := ?_)
        rw [if_neg (by omega), if_neg (by omega)]
        exact ih (qOu a.1 x) (hd.resolve_left (by omega)) hPx
theorem mIsWithin (h : qE r) {a : qAS} (hB : qMb (m 177) a) (hl : qMl a) (hP : qPth a.1) {p q : Int} (hq : 0 ≤ q) (hd : qDp a.1 4 p) (hp : 0 ≤ p ∧ p < a.1.length) : qP m_Mo_isWithin [qK 176, qI p, qI q, none] (qT0, m, r) (qI (qbi (qWi a.1 4 p q))) := by
  refine qr_il rfl rfl (w := ?_)
  refine qr_is3 rfl (w := ?_)
  exact mIsWithin_loop h hB hl hP hq 4 p hd (Or.inr hp)
theorem qDp_in' {ps : List (Int × Int)} (h9 : qOu ps (-9) = -9) : ∀ (n : Nat) (u t : Int), qDp ps n u → qIn ps n u t → qDp ps n t := by
  intro n
  induction n with
  | zero =>
    intro u t h1 h2
    have e : u = t := h2
    exact e ▸ h1
  | succ n ih =>
    intro u t h1 h2
    rcases h2 with h2 | ⟨h2, h3⟩
    · exact h2 ▸ h1
    · have h4 := ih _ _ (h1.resolve_left h2) h3
      exact qDp_mono n (n + 1) t (by omega) h4
theorem qNs_dp {ps : List (Int × Int)} (h9 : qOu ps (-9) = -9) : ∀ (fs : List Int) (u : Int), qDp ps 3 u → qNs ps fs u → ∀ f ∈ fs, qDp ps 4 (qPa f) := by
  intro fs
  induction fs with
  | nil => intro u _ _ f hf; simp at hf
  | cons g t ih =>
    intro u hu hn f hf
    obtain ⟨n1, n2, n3⟩ := hn
    have ho := qDp_in' h9 3 u _ hu n1
    rcases List.mem_cons.mp hf with e | hf
    · rw [e]
      exact Or.inr ho
    · refine ih _ ?_ n3 f hf
      split
      · rename_i e
        exact n2 e
      · exact ho
/-- the row of fields -/
def qRo (m : Nat → Int → Int) (l : List Int) : Prop := m 176 18 = l.length ∧ ∀ k : Int, 0 ≤ k → k < l.length → m 187 k = qAt l k
theorem qRo_eq {m' : Nat → Int → Int} {l : List Int} (h : qRo m l) (e1 : m' 176 18 = m 176 18) (e2 : m' 187 = m 187) : qRo m' l := ⟨e1.trans h.1, fun k h0 h1 => by rw [e2]; exact h.2 k h0 h1⟩
theorem mIsRow_loop (h : qE r) {a : qAS} (hB : qMb (m 177) a) (hl : qMl a) {s : Int} (hs : 0 ≤ s ∧ s < a.2.1.length) {fs : List Int} (hr : qRo m fs) (hf20 : fs.length ≤ 20) : ∀ (n k : Nat) (c : Int), k + n = fs.length → (c = 0 ∨ c = 1) → (c = 1 → (qGf a.2.1 s).length = fs.length) → (c = 1 → ∀ j : Nat, j < k → qAt (qGf a.2.1 s) j = qAt fs j) → (c = 0 → qGf a.2.1 s ≠ fs) → qP2 m_Mo_isRow 20 [qK 176, qI s, qI c, qI k] (qT0, m, r) (qI (qbi (decide (qGf a.2.1 s = fs)))) := by
  obtain ⟨⟨b0, b1, b2, b3⟩, bp, bs, br⟩ := id hB
  obtain ⟨l1, l2, l3, l4, l5⟩ := id hl
  have hrl := qRs_len a
  have e18 := hr.1
  intro n
  induction n with
  | zero =>
    intro k c hk hc0 hle hag hne
    unfold qP2
    refine qr_il rfl rfl (w := ?_)
    refine qr_al rfl rfl (w := ?_)
    refine qr_gi rfl kd_176 (w := ?_)
    refine qr_icge rfl (fun hc => ?_) (fun hc => absurd hc (by omega))
    refine qr_il rfl rfl (w := ?_)
    refine qW_zreturn rfl hc0 ⟨congrArg qI ?_, rfl⟩
    rcases hc0 with e | e
    · rw [decide_eq_false (hne e)]
      exact e
    · have heq : qGf a.2.1 s = fs := by
        refine List.ext_getElem (hle e) (fun j h1 h2 => ?_)
        have := hag e j (by omega)
        rw [qAt_lt h1, qAt_lt h2] at this
        exact this
      rw [decide_eq_true heq]
      exact e
  | succ n ih =>
    intro k c hk hc0 hle hag hne
    unfold qP2
    refine qr_il rfl rfl (w := ?_)
    refine qr_al rfl rfl (w := ?_)
    refine qr_gi rfl kd_176 (w := ?_)
    refine qr_icge rfl (fun hc => absurd hc (by omega)) (fun hc => ?_)
    refine qr_il rfl rfl (w := ?_)
    refine qr_ifeq rfl (fun hcf => ?_) (fun hcf => ?_)
    · refine qr_il rfl rfl (w := ?_)
      refine qW_zreturn rfl hc0 ⟨congrArg qI ?_, rfl⟩
      rcases hc0 with e | e
      · rw [decide_eq_false (hne e)]
        exact e
      · omega
    · refine qr_al rfl rfl (w := ?_)
      refine qr_il rfl rfl (w := ?_)
      refine qr_il rfl rfl (w := ?_)
      have hle2 := hle (by omega)
      refine qr_callP rfl (mFieldOf (s := s) (k := k) h hB hl hs (by omega)) (qrcv1 kd_176) (w := ?_)
      refine qr_al rfl rfl (w := ?_)
      refine qr_gr rfl kd_176 (hr := (rf_8_17 h)) (w := ?_)
      refine qr_il rfl rfl (w := ?_)
      refine qr_ia rfl kd_187 (by omega) (w := ?_)
      rw [hr.2 k (by omega) (by omega)]
      refine qr_icne rfl (fun hcff => ?_) (fun hcff => ?_)
      · refine qr_const rfl (w := ?_)
        refine qr_is2 rfl (w := ?_)
        refine qr_inc3 rfl (by omega) (w := ?_)
        refine qr_goto rfl (w := ?_)
        refine ih (k + 1) 0 (by omega) (Or.inl rfl) (fun e => by omega) (fun e => by omega) (fun _ e => ?_)
        rw [e] at hcff
        omega
      · refine qr_const rfl (w := ?_)
        refine qr_goto rfl (w := ?_)
        refine qr_is2 rfl (w := ?_)
        refine qr_inc3 rfl (by omega) (w := ?_)
        refine qr_goto rfl (w := ?_)
        refine ih (k + 1) 1 (by omega) (Or.inr rfl) (fun _ => hle2) (fun _ j hj => ?_) (fun e => by omega)
        by_cases hjk : j = k
        · subst hjk
          omega
        · exact hag (by omega) j (by omega)
theorem mIsRow (h : qE r) {a : qAS} (hB : qMb (m 177) a) (hl : qMl a) {s : Int} (hs : 0 ≤ s ∧ s < a.2.1.length) {fs : List Int} (hr : qRo m fs) (hf20 : fs.length ≤ 20) : qP m_Mo_isRow [qK 176, qI s, none, none] (qT0, m, r) (qI (qbi (decide (qGf a.2.1 s = fs)))) := by
  obtain ⟨⟨b0, b1, b2, b3⟩, bp, bs, br⟩ := id hB
  obtain ⟨l1, l2, l3, l4, l5⟩ := id hl
  have hrl := qRs_len a
  have e18 := hr.1
  refine qr_al rfl rfl (w := ?_)
  refine qr_il rfl rfl (w := ?_)
  refine qr_callP rfl (mFieldsOf (s := s) h hB hl hs) (qrcv1 kd_176) (w := ?_)
  refine qr_al rfl rfl (w := ?_)
  refine qr_gi rfl kd_176 (w := ?_)
  refine qr_icne rfl (fun hc => ?_) (fun hc => ?_)
  · refine qr_const rfl (w := ?_)
    refine qr_is2 rfl (w := ?_)
    refine qr_const rfl (w := ?_)
    refine qr_is3 rfl (w := ?_)
    exact mIsRow_loop h hB hl hs hr hf20 fs.length 0 0 (by omega) (Or.inl rfl) (fun e => by omega) (fun e => by omega) (fun _ e => by rw [e] at hc; omega)
  · refine qr_const rfl (w := ?_)
    refine qr_goto rfl (w := ?_)
    refine qr_is2 rfl (w := ?_)
    refine qr_const rfl (w := ?_)
    refine qr_is3 rfl (w := ?_)
    exact mIsRow_loop h hB hl hs hr hf20 fs.length 0 1 (by omega) (Or.inr rfl) (fun _ => by omega) (fun _ j hj => by omega) (fun e => by omega)
theorem qGf_at {ss : List (List Int)} {s : Nat} (h : s < ss.length) : qGf ss s = ss[s] := by
  unfold qGf
  rw [if_pos ⟨by omega, by omega⟩, Int.toNat_natCast, List.getD_eq_getElem?_getD, List.getElem?_eq_getElem h]
  rfl
/-- a new shape is written behind the others -/
def qSn (a : qAS) (ss : List (List Int)) : qAS := (a.1, ss, a.2.2.1, a.2.2.2)
theorem qGf_app {ss : List (List Int)} {fs : List Int} {s : Int} (h : 0 ≤ s ∧ s < ss.length) : qGf (ss ++ [fs]) s = qGf ss s := by
  unfold qGf
  rw [List.length_append, if_pos ⟨h.1, by omega⟩, if_pos h, List.getD_eq_getElem?_getD, List.getElem?_append_left (by omega), ← List.getD_eq_getElem?_getD]
theorem qGf_last {ss : List (List Int)} {fs : List Int} : qGf (ss ++ [fs]) ss.length = fs := by
  unfold qGf
  rw [List.length_append, if_pos ⟨by omega, by simp only [List.length_cons, List.length_nil]; omega⟩, Int.toNat_natCast, List.getD_eq_getElem?_getD, List.getElem?_append_right (Nat.le_refl _), Nat.sub_self]
  rfl
theorem qMb_sn {g g' : Int → Int} {a : qAS} {fs : List Int} (hB : qMb g a) (hl : qMl a) (hn : a.2.1.length < 40) (hf20 : fs.length ≤ 20) (h0 : ∀ j : Int, 0 ≤ j → j < 1294 → j ≠ 2 → (j < 124 + 21 * a.2.1.length ∨ 124 + 21 * a.2.1.length + 21 ≤ j) → g' j = g j) (h2 : g' 2 = a.2.1.length + 1) (hx : g' (124 + 21 * a.2.1.length) = fs.length) (hv : ∀ k : Int, 0 ≤ k → k < fs.length → g' (124 + 21 * a.2.1.length + 1 + k) = qAt fs k) : qMb g' (qSn a (a.2.1 ++ [fs])) := by
  obtain ⟨⟨b0, b1, b2, b3⟩, bp, bs, br⟩ := hB
  obtain ⟨l1, l2, l3, l4, l5⟩ := hl
  refine ⟨⟨?_, ?_, ?_, ?_⟩, fun p g0 g1 => ?_, fun s g0 g1 => ?_, fun k g0 g1 => ⟨?_, fun j k0 k1 => ?_⟩⟩
  · rw [h0 _ (by omega) (by omega) (by omega) (by omega)]; exact b0
  · rw [h0 _ (by omega) (by omega) (by omega) (by omega)]; exact b1
  · rw [h2]
    show _ = ((a.2.1 ++ [fs]).length : Int)
    rw [List.length_append]
    rfl
  · rw [h0 _ (by omega) (by omega) (by omega) (by omega)]; exact b3
  · have g1' : p < a.1.length := g1
    rw [h0 _ (by omega) (by omega) (by omega) (by omega), h0 _ (by omega) (by omega) (by omega) (by omega)]
    exact bp p g0 g1
  · have g1' : s < (a.2.1 ++ [fs]).length := g1
    rw [List.length_append] at g1'
    simp only [List.length_cons, List.length_nil] at g1'
    show g' (124 + 21 * s) = ((qGf (a.2.1 ++ [fs]) s).length : Int) ∧ ∀ k : Int, 0 ≤ k → k < (qGf (a.2.1 ++ [fs]) s).length → g' (124 + 21 * s + 1 + k) = qAt (qGf (a.2.1 ++ [fs]) s) k
    by_cases hs : s < a.2.1.length
    · rw [qGf_app ⟨g0, hs⟩]
      have := l3 s
      refine ⟨?_, fun k k0 k1 => ?_⟩
      · rw [h0 _ (by omega) (by omega) (by omega) (by omega)]; exact (bs s g0 hs).1
      · rw [h0 _ (by omega) (by omega) (by omega) (by omega)]; exact (bs s g0 hs).2 k k0 k1
    · have e : s = a.2.1.length := by omega
      subst e
      rw [qGf_last]
      exact ⟨hx, hv⟩
  · have g1' : k < a.2.2.2.length := g1
    rw [h0 _ (by omega) (by omega) (by omega) (by omega)]; exact (br k g0 g1).1
  · have g1' : k < a.2.2.2.length := g1
    have k1' : j < (qGet a k).2.length := k1
    have := l5 k
    rw [h0 _ (by omega) (by omega) (by omega) (by omega)]; exact (br k g0 g1).2 j k0 k1
theorem mCopyRow_loop (h : qE r) {fs : List Int} (hf20 : fs.length ≤ 20) {s : Int} (hs : 0 ≤ s ∧ s < 40) {Q : qA → qM → Prop} : ∀ (n k : Nat) (m : Nat → Int → Int), k + n = fs.length → qRo m fs → (∀ m' : Nat → Int → Int, (∀ j : Int, k ≤ j → j < fs.length → m' 177 (124 + 21 * s + 1 + j) = qAt fs j) → qG (fun a j => a = 177 ∧ 124 + 21 * s + 1 + k ≤ j ∧ j < 124 + 21 * s + 1 + fs.length) m m' → qW m_Mo_findsShape 103 [qK 176, qI s, qI fs.length] [] (qT0, m', r) Q) → qW m_Mo_findsShape 67 [qK 176, qI s, qI k] [] (qT0, m, r) Q := by
  intro n
  induction n with
  | zero =>
    intro k m hk hr K
    have e18 := hr.1
    have ek : k = fs.length := by omega
    subst ek
    refine qr_il rfl rfl (w := ?_)
    refine qr_al rfl rfl (w := ?_)
    refine qr_gi rfl kd_176 (w := ?_)
    refine qr_icge rfl (fun hc => ?_) (fun hc => absurd hc (by omega))
    exact K m (fun j h0 h1 => by omega) qG_rf
  | succ n ih =>
    intro k m hk hr K
    have e18 := hr.1
    refine qr_il rfl rfl (w := ?_)
    refine qr_al rfl rfl (w := ?_)
    refine qr_gi rfl kd_176 (w := ?_)
    refine qr_icge rfl (fun hc => absurd hc (by omega)) (fun hc => ?_)
    refine qr_al rfl rfl (w := ?_)
    refine qr_gr rfl kd_176 (hr := (rf_8_0 h)) (w := ?_)
    refine qr_const rfl (w := ?_)
    refine qr_const rfl (w := ?_)
    refine qr_il rfl rfl (w := ?_)
    refine qr_mul rfl (by omega) (w := ?_)
    refine qr_add rfl (by omega) (w := ?_)
    refine qr_const rfl (w := ?_)
    refine qr_add rfl (by omega) (w := ?_)
    refine qr_il rfl rfl (w := ?_)
    refine qr_add rfl (by omega) (w := ?_)
    refine qr_al rfl rfl (w := ?_)
    refine qr_gr rfl kd_176 (hr := (rf_8_17 h)) (w := ?_)
    refine qr_il rfl rfl (w := ?_)
    refine qr_ia rfl kd_187 (by omega) (w := ?_)
    refine qr_ias rfl kd_177 (by omega) (w := ?_)
    refine qr_inc2 rfl (by omega) (w := ?_)
    refine qr_goto rfl (w := ?_)
    rw [hr.2 k (by omega) (by omega)]
    refine ih (k + 1) _ (by omega) (qRo_eq hr (qup_z (by decide)) (funext (fun j => qup_z (by decide)))) (fun m2 h1 h2 => K m2 (fun j g0 g1 => ?_) (qG_tr (qG_up ⟨rfl, by omega, by omega⟩) (qG_mo h2 (fun a j e => ⟨e.1, by omega, e.2.2⟩))))
    by_cases hj : j = k
    · rw [h2 177 _ (fun e => by omega), hj]
      exact qup_s
    · exact h1 j (by omega) g1
theorem mFinds_loop (h : qE r) {a : qAS} (hB : qMb (m 177) a) (hl : qMl a) {fs : List Int} (hr : qRo m fs) (hf20 : fs.length ≤ 20) : ∀ (n s : Nat) (y : qA), s + n = a.2.1.length → qFs a.2.1 fs 0 = qFs (a.2.1.drop s) fs s → qW m_Mo_findsShape 2 [qK 176, qI s, y] [] (qT0, m, r) (fun x σ => ∃ m', σ = (qT0, m', r) ∧ x = qI (if 40 ≤ qFs a.2.1 fs 0 then -9 else (qFs a.2.1 fs 0 : Nat)) ∧ (qFs a.2.1 fs 0 < 40 → qMb (m' 177) (qSn a (qLs a.2.1 (qFs a.2.1 fs 0) fs))) ∧ qG (fun a _ => a = 177) m m') := by
  obtain ⟨⟨b0, b1, b2, b3⟩, bp, bs, br⟩ := id hB
  obtain ⟨l1, l2, l3, l4, l5⟩ := id hl
  have hrl := qRs_len a
  have e18 := hr.1
  intro n
  induction n with
  | zero =>
    intro s y hs hq
    have es : s = a.2.1.length := by omega
    subst es
    rw [List.drop_length] at hq
    have hq : qFs a.2.1 fs 0 = a.2.1.length := hq
    refine qr_il rfl rfl (w := ?_)
    refine qr_al rfl rfl (w := ?_)
    refine qr_gr rfl kd_176 (hr := (rf_8_0 h)) (w := ?_)
    refine qr_const rfl (w := ?_)
    refine qr_ia rfl kd_177 (by omega) (w := ?_)
    refine qr_icge rfl (fun hc => ?_) (fun hc => absurd hc (by omega))
    refine qr_al rfl rfl (w := ?_)
    refine qr_gr rfl kd_176 (hr := (rf_8_0 h)) (w := ?_)
    refine qr_const rfl (w := ?_)
    refine qr_ia rfl kd_177 (by omega) (w := ?_)
    refine qr_const rfl (w := ?_)
    refine qr_icne rfl (fun hct => ?_) (fun hct => ?_)
    · refine qr_al rfl rfl (w := ?_)
      refine qr_gr rfl kd_176 (hr := (rf_8_0 h)) (w := ?_)
      refine qr_const rfl (w := ?_)
      refine qr_ia rfl kd_177 (by omega) (w := ?_)
      refine qr_is1 rfl (w := ?_)
      refine qr_al rfl rfl (w := ?_)
      refine qr_gr rfl kd_176 (hr := (rf_8_0 h)) (w := ?_)
      refine qr_const rfl (w := ?_)
      refine qr_const rfl (w := ?_)
      refine qr_il rfl rfl (w := ?_)
      refine qr_mul rfl (by omega) (w := ?_)
      refine qr_add rfl (by omega) (w := ?_)
      refine qr_al rfl rfl (w := ?_)
      refine qr_gi rfl kd_176 (w := ?_)
      refine qr_ias rfl kd_177 (by omega) (w := ?_)
      refine qr_const rfl (w := ?_)
      refine qr_is2 rfl (w := ?_)
      rw [b2, e18]
      have up : qG (fun z j => z = 177 ∧ j = 124 + 21 * (a.2.1.length : Int)) m (qup m 177 (124 + 21 * (a.2.1.length : Int)) fs.length) := qG_up ⟨rfl, rfl⟩
      refine mCopyRow_loop h hf20 ⟨by omega, by omega⟩ fs.length 0 _ (by omega) (qRo_eq hr (qup_z (by decide)) (funext (fun j => qup_z (by decide)))) (fun m2 h1 h2 => ?_)
      refine qr_al rfl rfl (w := ?_)
      refine qr_gr rfl kd_176 (hr := (rf_8_0 h)) (w := ?_)
      refine qr_const rfl (w := ?_)
      refine qr_dup2 rfl (w := ?_)
      refine qr_ia rfl kd_177 (by omega) (w := ?_)
      rw [show m2 177 2 = a.2.1.length from (h2 177 2 (fun e => by omega)).trans ((qup_i (by omega)).trans b2)]
      refine qr_const rfl (w := ?_)
      refine qr_add rfl (by omega) (w := ?_)
      refine qr_ias rfl kd_177 (by omega) (w := ?_)
      refine qr_il rfl rfl (w := ?_)
      refine qW_ireturn rfl ?_
      refine ⟨_, rfl, by rw [if_neg (by omega), hq], fun _ => ?_, qG_tr (qG_mo up (fun a j e => e.1)) (qG_tr (qG_mo h2 (fun a j e => e.1)) (qG_up rfl))⟩
      unfold qLs
      rw [if_pos hq]
      have h2j : ∀ j : Int, j < 124 + 21 * (a.2.1.length : Int) + 1 ∨ 124 + 21 * (a.2.1.length : Int) + 1 + fs.length ≤ j → m2 177 j = qup m 177 (124 + 21 * (a.2.1.length : Int)) fs.length 177 j := fun j hj => h2 177 j (fun e => by omega)
      refine qMb_sn hB hl (by omega) hf20 (fun j g0 g1 g2 g3 => ?_) ?_ ?_ (fun k k0 k1 => ?_)
      · rw [qup_i g2, h2j j (by omega)]
        exact qup_i (by omega)
      · exact qup_s
      · rw [qup_i (by omega), h2j _ (by omega)]
        exact qup_s
      · rw [qup_i (by omega)]
        exact h1 k (by omega) k1
    · refine qr_const rfl (w := ?_)
      exact qW_ireturn rfl ⟨m, rfl, by rw [if_pos (by omega)], fun e => by omega, qG_rf⟩
  | succ n ih =>
    intro s y hs hq
    have hd := qdrop2 (l := a.2.1) (i := s) (by omega)
    have hgs := qGf_at (ss := a.2.1) (s := s) (by omega)
    rw [hd] at hq
    simp only [qFs] at hq
    rw [← hgs] at hq
    refine qr_il rfl rfl (w := ?_)
    refine qr_al rfl rfl (w := ?_)
    refine qr_gr rfl kd_176 (hr := (rf_8_0 h)) (w := ?_)
    refine qr_const rfl (w := ?_)
    refine qr_ia rfl kd_177 (by omega) (w := ?_)
    refine qr_icge rfl (fun hc => absurd hc (by omega)) (fun hc => ?_)
    refine qr_al rfl rfl (w := ?_)
    refine qr_il rfl rfl (w := ?_)
    refine qr_callP rfl (mIsRow (s := s) h hB hl (by omega) hr hf20) (qrcv1 kd_176) (w := ?_)
    refine qr_ifeqB rfl (fun hcf => ?_) (fun hcf => ?_)
    · refine qr_inc1 rfl (by omega) (w := ?_)
      refine qr_goto rfl (w := ?_)
      rw [if_neg (of_decide_eq_false hcf)] at hq
      exact ih (s + 1) y (by omega) hq
    · refine qr_il rfl rfl (w := ?_)
      refine qW_ireturn rfl ?_
      rw [if_pos (of_decide_eq_true hcf)] at hq
      refine ⟨m, rfl, by rw [hq, if_neg (by omega)], fun _ => ?_, qG_rf⟩
      rw [hq]
      unfold qLs
      rw [if_neg (by omega)]
      exact hB
theorem mFindsShape (h : qE r) {a : qAS} (hB : qMb (m 177) a) (hl : qMl a) {fs : List Int} (hr : qRo m fs) (hf20 : fs.length ≤ 20) : qW m_Mo_findsShape 0 [qK 176, none, none] [] (qT0, m, r) (fun x σ => ∃ m', σ = (qT0, m', r) ∧ x = qI (if 40 ≤ qFs a.2.1 fs 0 then -9 else (qFs a.2.1 fs 0 : Nat)) ∧ (qFs a.2.1 fs 0 < 40 → qMb (m' 177) (qSn a (qLs a.2.1 (qFs a.2.1 fs 0) fs))) ∧ qG (fun a _ => a = 177) m m') := by
  refine qr_const rfl (w := ?_)
  refine qr_is1 rfl (w := ?_)
  exact mFinds_loop h hB hl hr hf20 a.2.1.length 0 none (by omega) (by rw [List.drop_zero])
