/-! The reference: copies, the past, what is written -/
variable {m : Nat → Int → Int} {r : Nat → Int → Option Nat}
abbrev qPc' (y : Nat) (t i : Int) : Nat → Int → Prop := fun a j => a = y ∧ t + i ≤ j ∧ j < t + 1294
theorem mCopies_loop {z y nz ny : Nat} {f t : Int} (hz : qT0[z]? = some (1, nz)) (hy : qT0[y]? = some (1, ny)) (hzy : z ≠ y) (hf : 0 ≤ f ∧ f + 1294 ≤ nz ∧ nz ≤ 10000) (ht : 0 ≤ t ∧ t + 1294 ≤ ny ∧ ny ≤ 10000) : ∀ (k i : Nat) (m : Nat → Int → Int), i + k = 1294 → qW m_Mo_copies 3 [qK z, qI f, qK y, qI t, qI i] [] (qT0, m, r) (fun _ σ => ∃ m', σ = (qT0, m', r) ∧ (∀ j : Int, i ≤ j → j < 1294 → m' y (t + j) = m z (f + j)) ∧ qG (qPc' y t i) m m') := by
  intro k
  induction k with
  | zero =>
    intro i m hik
    refine qr_il rfl rfl (w := ?_)
    refine qr_const rfl (w := ?_)
    refine qr_icge rfl (fun hc => ?_) (fun hc => absurd hc (by omega))
    refine qW_return rfl ?_
    exact ⟨m, rfl, fun j h0 h1 => by omega, qG_rf⟩
  | succ k ih =>
    intro i m hik
    refine qr_il rfl rfl (w := ?_)
    refine qr_const rfl (w := ?_)
    refine qr_icge rfl (fun hc => absurd hc (by omega)) (fun hc => ?_)
    refine qr_al rfl rfl (w := ?_)
    refine qr_il rfl rfl (w := ?_)
    refine qr_il rfl rfl (w := ?_)
    refine qr_add rfl (by omega) (w := ?_)
    refine qr_al rfl rfl (w := ?_)
    refine qr_il rfl rfl (w := ?_)
    refine qr_il rfl rfl (w := ?_)
    refine qr_add rfl (by omega) (w := ?_)
    refine qr_ia rfl hz (by omega) (w := ?_)
    refine qr_ias rfl hy (by omega) (w := ?_)
    refine qr_inc4 rfl (by omega) (w := ?_)
    refine qr_goto rfl (w := ?_)
    refine qW_mono (ih (i + 1) _ (by omega)) (fun _ σ hσ => ?_)
    obtain ⟨m2, rfl, h1, h2⟩ := hσ
    have up : qG (qPc' y t i) m (qup m y (t + i) (m z (f + i))) := qG_up ⟨rfl, by omega, by omega⟩
    refine ⟨m2, rfl, fun j g0 g1 => ?_, qG_tr up (qG_mo h2 (fun a j e => ⟨e.1, by omega, e.2.2⟩))⟩
    by_cases hj : j = i
    · rw [h2 y (t + j) (fun e => by omega), hj]
      exact qup_s
    · rw [h1 j (by omega) g1]
      exact qup_z hzy
theorem mCopies {z y nz ny : Nat} {f t : Int} (hz : qT0[z]? = some (1, nz)) (hy : qT0[y]? = some (1, ny)) (hzy : z ≠ y) (hf : 0 ≤ f ∧ f + 1294 ≤ nz ∧ nz ≤ 10000) (ht : 0 ≤ t ∧ t + 1294 ≤ ny ∧ ny ≤ 10000) : qW m_Mo_copies 0 [qK z, qI f, qK y, qI t, none] [] (qT0, m, r) (fun _ σ => ∃ m', σ = (qT0, m', r) ∧ (∀ j : Int, 0 ≤ j → j < 1294 → m' y (t + j) = m z (f + j)) ∧ qG (qPc' y t 0) m m') := by
  refine qr_const rfl (w := ?_)
  refine qr_is4 rfl (w := ?_)
  exact mCopies_loop hz hy hzy hf ht 1294 0 m (by omega)
def qMh (m : Nat → Int → Int) (hs : List qAS) : Prop := m 176 2 = hs.length ∧ ∀ (i : Nat) (a : qAS), hs[i]? = some a → qMb (fun j => m 178 (1294 * i + j)) a
def qMt (m : Nat → Int → Int) (t : List Int) : Prop := m 176 5 = t.length ∧ ∀ k : Nat, k < t.length → m 180 k = t.getD k 0
theorem qMo_iff {w : qWd} : qMo m w ↔ qMb (m 177) w.1 ∧ qMh m w.2.1 ∧ qMt m w.2.2 := by
  constructor
  · rintro ⟨h1, h2, h3, h4⟩
    refine ⟨h1, ⟨h2, fun i a hi => ?_⟩, h4⟩
    have hil : i < w.2.1.length := by
      by_cases h : i < w.2.1.length
      · exact h
      · rw [List.getElem?_eq_none (by omega)] at hi
        cases hi
    have := h3 i hil
    rw [List.getD_eq_getElem?_getD, hi] at this
    exact this
  · rintro ⟨h1, ⟨h2, h3⟩, h4⟩
    refine ⟨h1, h2, fun i hi => ?_, h4⟩
    rw [List.getD_eq_getElem?_getD, List.getElem?_eq_getElem hi]
    exact h3 i _ (List.getElem?_eq_getElem hi)
abbrev qPr : Nat → Int → Prop := fun a j => a = 178 ∨ (a = 176 ∧ j = 2)

theorem mShift_loop (h : qE r) {y : qA} {Q : qA → qM → Prop} : ∀ (k i : Nat) (m : Nat → Int → Int), i + k = 5176 → (∀ m' : Nat → Int → Int, (∀ j : Int, i ≤ j → j < 5176 → m' 178 j = m 178 (j + 1294)) → qG (fun a j => a = 178 ∧ i ≤ j ∧ j < 5176) m m' → qW m_Mo_records 39 [qK 176, y, qI 5176] [] (qT0, m', r) Q) → qW m_Mo_records 10 [qK 176, y, qI i] [] (qT0, m, r) Q := by
  intro k
  induction k with
  | zero =>
    intro i m hik K
    have ei : i = 5176 := by omega
    subst ei
    refine qr_il rfl rfl (w := ?_)
    refine qr_const rfl (w := ?_)
    refine qr_icge rfl (fun hc => ?_) (fun hc => absurd hc (by omega))
    exact K m (fun j h0 h1 => by omega) qG_rf
  | succ k ih =>
    intro i m hik K
    refine qr_il rfl rfl (w := ?_)
    refine qr_const rfl (w := ?_)
    refine qr_icge rfl (fun hc => absurd hc (by omega)) (fun hc => ?_)
    refine qr_al rfl rfl (w := ?_)
    refine qr_gr rfl kd_176 (hr := (rf_8_1 h)) (w := ?_)
    refine qr_il rfl rfl (w := ?_)
    refine qr_al rfl rfl (w := ?_)
    refine qr_gr rfl kd_176 (hr := (rf_8_1 h)) (w := ?_)
    refine qr_il rfl rfl (w := ?_)
    refine qr_const rfl (w := ?_)
    refine qr_add rfl (by omega) (w := ?_)
    refine qr_ia rfl kd_178 (by omega) (w := ?_)
    refine qr_ias rfl kd_178 (by omega) (w := ?_)
    refine qr_inc2 rfl (by omega) (w := ?_)
    refine qr_goto rfl (w := ?_)
    refine ih (i + 1) _ (by omega) (fun m2 h1 h2 => K m2 (fun j g0 g1 => ?_) (qG_tr (qG_up ⟨rfl, by omega, by omega⟩) (qG_mo h2 (fun a j e => ⟨e.1, by omega, e.2.2⟩))))
    by_cases hj : j = i
    · rw [h2 178 j (fun e => by omega), hj]
      exact qup_s
    · rw [h1 j (by omega) g1]
      exact qup_i (by omega)
theorem mRecords (h : qE r) {z : Nat} {hs : List qAS} {a : qAS} (hz : qT0[z]? = some (1, 1294)) (hz2 : z ≠ 178 ∧ z ≠ 176) (hH : qMh m hs) (h5 : hs.length ≤ 5) (hls : ∀ b ∈ hs, qMl b) (hB : qMb (m z) a) (hl : qMl a) : qW m_Mo_records 0 [qK 176, qK z, none] [] (qT0, m, r) (fun _ σ => ∃ m', σ = (qT0, m', r) ∧ qMh m' (qPush hs a) ∧ qG qPr m m') := by
  have e2 := hH.1
  unfold qPush
  by_cases hc5 : hs.length < 5
  · rw [if_pos hc5]
    refine qr_al rfl rfl (w := ?_)
    refine qr_gi rfl kd_176 (w := ?_)
    refine qr_const rfl (w := ?_)
    refine qr_icne rfl (fun hc => ?_) (fun hc => absurd hc (by omega))
    refine qr_al rfl rfl (w := ?_)
    refine qr_const rfl (w := ?_)
    refine qr_al rfl rfl (w := ?_)
    refine qr_gr rfl kd_176 (hr := (rf_8_1 h)) (w := ?_)
    refine qr_al rfl rfl (w := ?_)
    refine qr_gi rfl kd_176 (w := ?_)
    refine qr_const rfl (w := ?_)
    refine qr_mul rfl (by omega) (w := ?_)
    refine qr_callV rfl (mCopies (f := 0) (t := m 176 2 * 1294) hz kd_178 hz2.1 (by omega) (by omega)) rfl (w := fun _ σ hσ => ?_)
    obtain ⟨m1, rfl, hc1, hG1⟩ := hσ
    have e21 : m1 176 2 = hs.length := (hG1 176 2 (fun e => by omega)).trans e2
    refine qr_al rfl rfl (w := ?_)
    refine qr_dup rfl (w := ?_)
    refine qr_gi rfl kd_176 (w := ?_)
    refine qr_const rfl (w := ?_)
    refine qr_add rfl (by omega) (w := ?_)
    refine qr_pi rfl kd_176 (w := ?_)
    refine qW_return rfl ?_
    refine ⟨_, rfl, ⟨?_, fun i b hi => ?_⟩, qG_tr (qG_mo hG1 (fun a j e => Or.inl e.1)) (qG_up (Or.inr ⟨rfl, rfl⟩))⟩
    · rw [qup_s, e21, List.length_append]
      rfl
    · have e178 : (qup m1 176 2 (m1 176 2 + 1)) 178 = m1 178 := funext (fun j => qup_z (by decide))
      rw [e178]
      by_cases hi2 : i < hs.length
      · rw [List.getElem?_append_left hi2] at hi
        exact qMb_eq (hH.2 i b hi) (hls b (List.mem_of_getElem? hi)) (fun j h0 h1 => hG1 178 _ (fun e => by omega))
      · have hi3 : i = hs.length := by
          by_cases hi4 : i = hs.length
          · exact hi4
          · rw [List.getElem?_append_right (by omega), List.getElem?_eq_none (by simp only [List.length_cons, List.length_nil]; omega)] at hi
            cases hi
        subst hi3
        rw [List.getElem?_append_right (Nat.le_refl _), Nat.sub_self] at hi
        have eb : a = b := Option.some.inj hi
        subst eb
        refine qMb_eq hB hl (fun j h0 h1 => ?_)
        have hcj := hc1 j h0 h1
        rw [Int.zero_add, e2] at hcj
        show m1 178 (1294 * hs.length + j) = _
        rw [← hcj]
        congr 1
        omega
  · rw [if_neg hc5]
    have hl5 : hs.length = 5 := by omega
    refine qr_al rfl rfl (w := ?_)
    refine qr_gi rfl kd_176 (w := ?_)
    refine qr_const rfl (w := ?_)
    refine qr_icne rfl (fun hc => absurd hc (by omega)) (fun hc => ?_)
    refine qr_const rfl (w := ?_)
    refine qr_is2 rfl (w := ?_)
    refine mShift_loop h 5176 0 m (by omega) (fun m1 hs1 hs2 => ?_)
    refine qr_al rfl rfl (w := ?_)
    refine qr_const rfl (w := ?_)
    refine qr_pi rfl kd_176 (w := ?_)
    refine qr_al rfl rfl (w := ?_)
    refine qr_const rfl (w := ?_)
    refine qr_al rfl rfl (w := ?_)
    refine qr_gr rfl kd_176 (hr := (rf_8_1 h)) (w := ?_)
    refine qr_al rfl rfl (w := ?_)
    refine qr_gi rfl kd_176 (w := ?_)
    refine qr_const rfl (w := ?_)
    have ep0 : (qup m1 176 2 4) 176 2 = 4 := qup_s
    rw [ep0]
    refine qr_mul rfl (by omega) (w := ?_)
    have ep : (qup m1 176 2 4) 176 2 = 4 := qup_s
    refine qr_callV rfl (mCopies (f := 0) (t := 4 * 1294) hz kd_178 hz2.1 (by omega) (by omega)) rfl (w := fun _ σ hσ => ?_)
    obtain ⟨m2, rfl, hc2, hG2⟩ := hσ
    have e22 : m2 176 2 = 4 := (hG2 176 2 (fun e => by omega)).trans ep
    refine qr_al rfl rfl (w := ?_)
    refine qr_dup rfl (w := ?_)
    refine qr_gi rfl kd_176 (w := ?_)
    refine qr_const rfl (w := ?_)
    refine qr_add rfl (by omega) (w := ?_)
    refine qr_pi rfl kd_176 (w := ?_)
    refine qW_return rfl ?_
    have hG02 : qG qPr m m2 := qG_tr (qG_mo hs2 (fun a j e => Or.inl e.1)) (qG_tr (qG_up (Or.inr ⟨rfl, rfl⟩)) (qG_mo hG2 (fun a j e => Or.inl e.1)))
    refine ⟨_, rfl, ⟨?_, fun i b hi => ?_⟩, qG_tr hG02 (qG_up (Or.inr ⟨rfl, rfl⟩))⟩
    · rw [qup_s, e22, List.length_append, List.length_tail, hl5]
      rfl
    · have e178 : (qup m2 176 2 (m2 176 2 + 1)) 178 = m2 178 := funext (fun j => qup_z (by decide))
      rw [e178]
      by_cases hi2 : i < 4
      · rw [List.getElem?_append_left (by rw [List.length_tail]; omega), List.getElem?_tail] at hi
        refine qMb_eq (hH.2 (i + 1) b hi) (hls b (List.mem_of_getElem? hi)) (fun j h0 h1 => ?_)
        show m2 178 (1294 * i + j) = m 178 (1294 * (i + 1 : Nat) + j)
        rw [hG2 178 _ (fun e => by omega), qup_z (by decide), hs1 _ (by omega) (by omega)]
        congr 1
        omega
      · have hi3 : i = 4 := by
          by_cases hi4 : i = 4
          · exact hi4
          · rw [List.getElem?_append_right (by rw [List.length_tail]; omega), List.getElem?_eq_none (by rw [List.length_tail]; simp only [List.length_cons, List.length_nil]; omega)] at hi
            cases hi
        subst hi3
        rw [List.getElem?_append_right (by rw [List.length_tail]; omega), show 4 - hs.tail.length = 0 by rw [List.length_tail]; omega] at hi
        have eb : a = b := Option.some.inj hi
        subst eb
        refine qMb_eq hB hl (fun j h0 h1 => ?_)
        have hcj := hc2 j h0 h1
        rw [Int.zero_add, qup_z hz2.2, hs2 z j (fun e => hz2.1 e.1)] at hcj
        exact hcj
