/-! Row: a list of numbers with room. qRow: its cells; qRw m z l: it holds l -/
def qRow (T : List (Nat × Nat)) (r : Nat → Int → Option Nat) (z n : Nat) : Prop := T[z]? = some (0, 4) ∧ T[z + 1]? = some (1, n) ∧ r z 0 = some (z + 1) ∧ n ≤ 1000
def qRw (m : Nat → Int → Int) (z : Nat) (l : List Int) : Prop := m z 1 = l.length ∧ ∀ i : Nat, i < l.length → m (z + 1) i = l.getD i 0
/-- an element, -9 outside -/
def qAt (l : List Int) (i : Int) : Int := if 0 ≤ i ∧ i < l.length then l.getD i.toNat 0 else -9
/-- the memory outside some cells is kept -/
def qFr (P : Nat → Prop) (m m' : Nat → Int → Int) : Prop := ∀ a, ¬ P a → m' a = m a
theorem qFr_rf {P : Nat → Prop} {m : Nat → Int → Int} : qFr P m m := fun _ _ => rfl
theorem qFr_tr {P : Nat → Prop} {m m1 m2 : Nat → Int → Int} (h : qFr P m m1) (g : qFr P m1 m2) : qFr P m m2 := fun a ha => (g a ha).trans (h a ha)
theorem qFr_mo {P P' : Nat → Prop} {m m' : Nat → Int → Int} (h : qFr P m m') (g : ∀ a, P a → P' a) : qFr P' m m' := fun a ha => h a (fun x => ha (g a x))
theorem qFr_up {P : Nat → Prop} {m : Nat → Int → Int} {z : Nat} {i x : Int} (h : P z) : qFr P m (qup m z i x) := fun a ha => by
  funext j
  have hne : a ≠ z := fun e => ha (e ▸ h)
  simp [qup, hne]
theorem qRw_fr {P : Nat → Prop} {m m' : Nat → Int → Int} {z : Nat} {l : List Int} (h : qRw m z l) (f : qFr P m m') (h1 : ¬ P z) (h2 : ¬ P (z + 1)) : qRw m' z l :=
  ⟨by rw [f z h1]; exact h.1, fun i hi => by rw [f (z + 1) h2]; exact h.2 i hi⟩
theorem qup_s {m : Nat → Int → Int} {z : Nat} {i x : Int} : qup m z i x z i = x := by simp [qup]
theorem qup_i {m : Nat → Int → Int} {z : Nat} {i j x : Int} (h : j ≠ i) : qup m z i x z j = m z j := by simp [qup, h]
theorem qup_z {m : Nat → Int → Int} {z y : Nat} {i j x : Int} (h : y ≠ z) : qup m z i x y j = m y j := by simp [qup, h]
abbrev qPz (z : Nat) : Nat → Prop := fun a => a = z ∨ a = z + 1
variable {T : List (Nat × Nat)} {m : Nat → Int → Int} {r : Nat → Int → Option Nat}
theorem sRow_size {z n : Nat} (h : qRow T r z n) : qP m_Row_size [qK z] (T, m, r) (qI (m z 1)) := by
  refine qr_al rfl rfl (w := ?_)
  refine qr_gi rfl h.1 (w := ?_)
  refine qW_ireturn rfl ?_
  exact ⟨rfl, rfl⟩
theorem sRow_at0 {z n : Nat} {i : Int} (h : qRow T r z n) : qP m_Row_at [qK z, qI i] (T, m, r) (qI (if 0 ≤ i ∧ i < m z 1 ∧ i < n then m (z + 1) i else -9)) := by
  refine qr_il rfl rfl (w := ?_)
  refine qr_iflt rfl (fun hc => ?_) (fun hc => ?_)
  · refine qr_const rfl (w := ?_)
    refine qW_ireturn rfl ?_
    refine ⟨congrArg qI ?_, rfl⟩
    first | (rw [if_pos ⟨by omega, by omega, by omega⟩]; done) | (rw [if_neg (by omega)]; done)
  · refine qr_il rfl rfl (w := ?_)
    refine qr_al rfl rfl (w := ?_)
    refine qr_gi rfl h.1 (w := ?_)
    refine qr_icge rfl (fun hcf => ?_) (fun hcf => ?_)
    · refine qr_const rfl (w := ?_)
      refine qW_ireturn rfl ?_
      refine ⟨congrArg qI ?_, rfl⟩
      first | (rw [if_pos ⟨by omega, by omega, by omega⟩]; done) | (rw [if_neg (by omega)]; done)
    · refine qr_il rfl rfl (w := ?_)
      refine qr_al rfl rfl (w := ?_)
      refine qr_gr rfl h.1 (hr := h.2.2.1) (w := ?_)
      refine qr_len rfl h.2.1 (w := ?_)
      refine qr_icge rfl (fun hcff => ?_) (fun hcff => ?_)
      · refine qr_const rfl (w := ?_)
        refine qW_ireturn rfl ?_
        refine ⟨congrArg qI ?_, rfl⟩
        first | (rw [if_pos ⟨by omega, by omega, by omega⟩]; done) | (rw [if_neg (by omega)]; done)
      · refine qr_al rfl rfl (w := ?_)
        refine qr_gr rfl h.1 (hr := h.2.2.1) (w := ?_)
        refine qr_il rfl rfl (w := ?_)
        refine qr_ia rfl h.2.1 (by omega) (w := ?_)
        refine qr_goto rfl (w := ?_)
        refine qW_ireturn rfl ?_
        refine ⟨congrArg qI ?_, rfl⟩
        first | (rw [if_pos ⟨by omega, by omega, by omega⟩]; done) | (rw [if_neg (by omega)]; done)
theorem sRow_at {z n : Nat} {i : Int} {l : List Int} (h : qRow T r z n) (hl : qRw m z l) (hn : l.length ≤ n) : qP m_Row_at [qK z, qI i] (T, m, r) (qI (qAt l i)) := by
  have h1 := sRow_at0 (m := m) (i := i) h
  have h2 : (if 0 ≤ i ∧ i < m z 1 ∧ i < n then m (z + 1) i else -9) = qAt l i := by
    unfold qAt
    rw [hl.1]
    by_cases hi : 0 ≤ i ∧ i < l.length
    · rw [if_pos hi, if_pos ⟨hi.1, hi.2, by omega⟩]
      have h3 := hl.2 i.toNat (by omega)
      rw [Int.toNat_of_nonneg hi.1] at h3
      exact h3
    · rw [if_neg hi, if_neg (by omega)]
  rw [h2] at h1
  exact h1
theorem sRow_len {z n : Nat} {l : List Int} (h : qRow T r z n) (hl : qRw m z l) : qP m_Row_size [qK z] (T, m, r) (qI l.length) := by
  have h1 := sRow_size (m := m) h
  rw [hl.1] at h1
  exact h1

theorem sRow_put0 {z n : Nat} {i x : Int} (h : qRow T r z n) : qW m_Row_put 0 [qK z, qI i, qI x] [] (T, m, r) (fun _ σ => σ = (T, (if 0 ≤ i ∧ i < m z 1 ∧ i < n then qup m (z + 1) i x else m), r)) := by
  refine qr_il rfl rfl (w := ?_)
  refine qr_iflt rfl (fun hc => ?_) (fun hc => ?_)
  · refine qW_return rfl ?_
    first | (rw [if_pos ⟨by omega, by omega, by omega⟩]; done) | (rw [if_neg (by omega)]; done)
  · refine qr_il rfl rfl (w := ?_)
    refine qr_al rfl rfl (w := ?_)
    refine qr_gi rfl h.1 (w := ?_)
    refine qr_icge rfl (fun hcf => ?_) (fun hcf => ?_)
    · refine qW_return rfl ?_
      first | (rw [if_pos ⟨by omega, by omega, by omega⟩]; done) | (rw [if_neg (by omega)]; done)
    · refine qr_il rfl rfl (w := ?_)
      refine qr_al rfl rfl (w := ?_)
      refine qr_gr rfl h.1 (hr := h.2.2.1) (w := ?_)
      refine qr_len rfl h.2.1 (w := ?_)
      refine qr_icge rfl (fun hcff => ?_) (fun hcff => ?_)
      · refine qW_return rfl ?_
        first | (rw [if_pos ⟨by omega, by omega, by omega⟩]; done) | (rw [if_neg (by omega)]; done)
      · refine qr_al rfl rfl (w := ?_)
        refine qr_gr rfl h.1 (hr := h.2.2.1) (w := ?_)
        refine qr_il rfl rfl (w := ?_)
        refine qr_il rfl rfl (w := ?_)
        refine qr_ias rfl h.2.1 (by omega) (w := ?_)
        refine qW_return rfl ?_
        first | (rw [if_pos ⟨by omega, by omega, by omega⟩]; done) | (rw [if_neg (by omega)]; done)
theorem sRow_add0 {z n : Nat} {x : Int} (h : qRow T r z n) : qW m_Row_add 0 [qK z, qI x] [] (T, m, r) (fun _ σ => σ = (T, (if 0 ≤ m z 1 ∧ m z 1 < n then qup (qup m (z + 1) (m z 1) x) z 1 (m z 1 + 1) else m), r)) := by
  refine qr_al rfl rfl (w := ?_)
  refine qr_gi rfl h.1 (w := ?_)
  refine qr_iflt rfl (fun hc => ?_) (fun hc => ?_)
  · refine qW_return rfl ?_
    first | (rw [if_pos ⟨by omega, by omega⟩, qup_z (by omega)]; done) | (rw [if_neg (by omega)]; done)
  · refine qr_al rfl rfl (w := ?_)
    refine qr_gi rfl h.1 (w := ?_)
    refine qr_al rfl rfl (w := ?_)
    refine qr_gr rfl h.1 (hr := h.2.2.1) (w := ?_)
    refine qr_len rfl h.2.1 (w := ?_)
    refine qr_icge rfl (fun hcf => ?_) (fun hcf => ?_)
    · refine qW_return rfl ?_
      first | (rw [if_pos ⟨by omega, by omega⟩, qup_z (by omega)]; done) | (rw [if_neg (by omega)]; done)
    · refine qr_al rfl rfl (w := ?_)
      refine qr_gr rfl h.1 (hr := h.2.2.1) (w := ?_)
      refine qr_al rfl rfl (w := ?_)
      refine qr_gi rfl h.1 (w := ?_)
      refine qr_il rfl rfl (w := ?_)
      refine qr_ias rfl h.2.1 (by first | omega | (have := h.2.2.2; rw [qup_z (by omega)]; omega)) (w := ?_)
      refine qr_al rfl rfl (w := ?_)
      refine qr_dup rfl (w := ?_)
      refine qr_gi rfl h.1 (w := ?_)
      refine qr_const rfl (w := ?_)
      refine qr_add rfl (by first | omega | (have := h.2.2.2; rw [qup_z (by omega)]; omega)) (w := ?_)
      refine qr_pi rfl h.1 (w := ?_)
      refine qW_return rfl ?_
      first | (rw [if_pos ⟨by omega, by omega⟩, qup_z (by omega)]; done) | (rw [if_neg (by omega)]; done)
theorem sRow_cut0 {z n : Nat} {x : Int} (h : qRow T r z n) : qW m_Row_cutTo 0 [qK z, qI x] [] (T, m, r) (fun _ σ => σ = (T, (if 0 ≤ x ∧ x < m z 1 then qup m z 1 x else m), r)) := by
  refine qr_il rfl rfl (w := ?_)
  refine qr_iflt rfl (fun hc => ?_) (fun hc => ?_)
  · refine qW_return rfl ?_
    first | (rw [if_pos ⟨by omega, by omega⟩]; done) | (rw [if_neg (by omega)]; done)
  · refine qr_il rfl rfl (w := ?_)
    refine qr_al rfl rfl (w := ?_)
    refine qr_gi rfl h.1 (w := ?_)
    refine qr_icge rfl (fun hcf => ?_) (fun hcf => ?_)
    · refine qW_return rfl ?_
      first | (rw [if_pos ⟨by omega, by omega⟩]; done) | (rw [if_neg (by omega)]; done)
    · refine qr_al rfl rfl (w := ?_)
      refine qr_il rfl rfl (w := ?_)
      refine qr_pi rfl h.1 (w := ?_)
      refine qW_return rfl ?_
      first | (rw [if_pos ⟨by omega, by omega⟩]; done) | (rw [if_neg (by omega)]; done)
theorem sRow_add {z n : Nat} {x : Int} {l : List Int} (h : qRow T r z n) (hl : qRw m z l) (hn : l.length < n) : qW m_Row_add 0 [qK z, qI x] [] (T, m, r) (fun _ σ => ∃ m', σ = (T, m', r) ∧ qRw m' z (l ++ [x]) ∧ qFr (qPz z) m m') := by
  refine qW_mono (sRow_add0 h) (fun _ σ hσ => ⟨_, hσ, ?_⟩)
  rw [if_pos (by rw [hl.1]; omega), hl.1]
  refine ⟨⟨?_, fun i hi => ?_⟩, qFr_tr (qFr_up (Or.inr rfl)) (qFr_up (Or.inl rfl))⟩
  · rw [qup_s]; simp
  · rw [qup_z (by omega)]
    simp only [List.length_append, List.length_cons, List.length_nil] at hi
    by_cases he : i = l.length
    · subst he
      rw [qup_s]
      simp [List.getD_eq_getElem?_getD]
    · rw [qup_i (by omega), hl.2 i (by omega)]
      simp only [List.getD_eq_getElem?_getD]
      rw [List.getElem?_append_left (by omega)]
theorem sRow_cut {z n : Nat} {k : Nat} {l : List Int} (h : qRow T r z n) (hl : qRw m z l) : qW m_Row_cutTo 0 [qK z, qI k] [] (T, m, r) (fun _ σ => ∃ m', σ = (T, m', r) ∧ qRw m' z (l.take k) ∧ qFr (fun a => a = z) m m') := by
  refine qW_mono (sRow_cut0 h) (fun _ σ hσ => ⟨_, hσ, ?_⟩)
  rw [hl.1]
  by_cases hk : k < l.length
  · rw [if_pos ⟨by omega, by omega⟩]
    refine ⟨⟨?_, fun i hi => ?_⟩, qFr_up rfl⟩
    · rw [qup_s, List.length_take]; omega
    · rw [List.length_take] at hi
      rw [qup_z (by omega), hl.2 i (by omega)]
      simp only [List.getD_eq_getElem?_getD]
      rw [List.getElem?_take_of_lt (by omega)]
  · rw [if_neg (by omega), List.take_of_length_le (by omega)]
    exact ⟨hl, qFr_rf⟩
theorem sRow_put {z n : Nat} {i x : Int} {l : List Int} (h : qRow T r z n) (hl : qRw m z l) (hn : l.length ≤ n) (hi : 0 ≤ i ∧ i < l.length) : qW m_Row_put 0 [qK z, qI i, qI x] [] (T, m, r) (fun _ σ => ∃ m', σ = (T, m', r) ∧ qRw m' z (l.set i.toNat x) ∧ qFr (qPz z) m m') := by
  refine qW_mono (sRow_put0 h) (fun _ σ hσ => ⟨_, hσ, ?_⟩)
  rw [if_pos (by rw [hl.1]; omega)]
  refine ⟨⟨?_, fun j hj => ?_⟩, qFr_up (Or.inr rfl)⟩
  · rw [qup_z (by omega), hl.1, List.length_set]
  · rw [List.length_set] at hj
    simp only [List.getD_eq_getElem?_getD]
    by_cases he : (j : Int) = i
    · have he2 : i.toNat = j := by omega
      rw [he, qup_s, he2, List.getElem?_set_self hj]
      rfl
    · rw [qup_i he, List.getElem?_set_ne (by omega), hl.2 j hj, List.getD_eq_getElem?_getD]

