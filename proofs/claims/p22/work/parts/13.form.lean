/-! Form: fields of a shape (a leaf by its path, a branch by 100 more), and how many are leaves -/
variable {T : List (Nat × Nat)} {m : Nat → Int → Int} {r : Nat → Int → Option Nat}
abbrev qIv (lo hi : Nat) : Nat → Prop := fun a => lo ≤ a ∧ a < hi
theorem qAt_lt {l : List Int} {i : Nat} (h : i < l.length) : qAt l i = l[i] := by
  unfold qAt
  rw [if_pos ⟨by omega, by omega⟩]
  simp [List.getD_eq_getElem?_getD, h]
theorem qAt_ge {l : List Int} {i : Nat} (h : l.length ≤ i) : qAt l i = -9 := by
  unfold qAt
  rw [if_neg (by omega)]
theorem qAt_neg {l : List Int} {i : Int} (h : i < 0) : qAt l i = -9 := by
  unfold qAt
  rw [if_neg (by omega)]
theorem qAt_app {l : List Int} {x : Int} {i : Int} (h : i < l.length) : qAt (l ++ [x]) i = qAt l i := by
  unfold qAt
  by_cases h0 : 0 ≤ i
  · rw [if_pos ⟨h0, by simp; omega⟩, if_pos ⟨h0, h⟩]
    simp only [List.getD_eq_getElem?_getD]
    rw [List.getElem?_append_left (by omega)]
  · rw [if_neg (by omega), if_neg (by omega)]
theorem qdrop {l : List Int} {i : Nat} (h : i < l.length) : l.drop i = l[i] :: l.drop (i + 1) := List.drop_eq_getElem_cons h
theorem qcont {f x : Int} {l : List Int} (h : f ≠ x) : (f :: l).contains x = l.contains x := by simp [List.contains_cons, Ne.symm h]
theorem qdrop_nil {l : List Int} {i : Nat} (h : i = l.length) : l.drop i = [] := by
  subst h
  simp
/-- a row copied from another -/
theorem sRow_copy_loop {z y n n' : Nat} {l : List Int} (h : qRow T r z n) (h' : qRow T r y n') (hn : l.length ≤ n) (hn' : l.length ≤ n') (hd : z + 1 < y ∨ y + 1 < z) :
    ∀ (k i : Nat) (m : Nat → Int → Int), i + k = l.length → qRw m y l → qRw m z (l.take i) → qW m_Row_copyFrom 7 [qK z, qK y, qI i] [] (T, m, r) (fun _ σ => ∃ m', σ = (T, m', r) ∧ qRw m' z l ∧ qFr (qPz z) m m') := by
  intro k
  have h3 := h.2.2.2
  induction k with
  | zero =>
    intro i m hik hl hz
    refine qr_il rfl rfl (w := ?_)
    refine qr_al rfl rfl (w := ?_)
    refine qr_callP rfl (sRow_len h' hl) (qrcv1 h'.1) (w := ?_)
    refine qr_icge rfl (fun hc => ?_) (fun hc => absurd hc (by omega))
    refine qW_return rfl ?_
    rw [List.take_of_length_le (by omega)] at hz
    exact ⟨m, rfl, hz, qFr_rf⟩
  | succ k ih =>
    intro i m hik hl hz
    refine qr_il rfl rfl (w := ?_)
    refine qr_al rfl rfl (w := ?_)
    refine qr_callP rfl (sRow_len h' hl) (qrcv1 h'.1) (w := ?_)
    refine qr_icge rfl (fun hc => absurd hc (by omega)) (fun hc => ?_)
    refine qr_al rfl rfl (w := ?_)
    refine qr_al rfl rfl (w := ?_)
    refine qr_il rfl rfl (w := ?_)
    refine qr_callP rfl (sRow_at h' hl hn') (qrcv1 h'.1) (w := ?_)
    refine qr_callV rfl (sRow_add h hz (by rw [List.length_take]; omega)) (qrcv1 h.1) (w := fun _ σ hσ => ?_)
    obtain ⟨m1, rfl, hz1, hf1⟩ := hσ
    have hl1 : qRw m1 y l := qRw_fr hl hf1 (by show ¬ (y = z ∨ y = z + 1); omega) (by show ¬ (y + 1 = z ∨ y + 1 = z + 1); omega)
    refine qr_inc2 rfl (by omega) (w := ?_)
    refine qr_goto rfl (w := ?_)
    rw [qAt_lt (by omega)] at hz1
    obtain ⟨n1, x1, s1, e1, m2, rfl, g1, g2⟩ := ih (i + 1) m1 (by omega) hl1 (by rw [List.take_succ, List.getElem?_eq_getElem (by omega)]; exact hz1)
    exact ⟨n1, x1, _, e1, m2, rfl, g1, qFr_tr hf1 g2⟩
theorem sRow_copy {z y n n' : Nat} {l : List Int} (h : qRow T r z n) (h' : qRow T r y n') (hl : qRw m y l) (hn : l.length ≤ n) (hn' : l.length ≤ n') (hd : z + 1 < y ∨ y + 1 < z) : qW m_Row_copyFrom 0 [qK z, qK y, none] [] (T, m, r) (fun _ σ => ∃ m', σ = (T, m', r) ∧ qRw m' z l ∧ qFr (qPz z) m m') := by
  refine qr_al rfl rfl (w := ?_)
  refine qr_const rfl (w := ?_)
  refine qr_pi rfl h.1 (w := ?_)
  refine qr_const rfl (w := ?_)
  refine qr_is2 rfl (w := ?_)
  have hf : qFr (qPz z) m (qup m z 1 0) := qFr_up (Or.inl rfl)
  obtain ⟨n1, x1, s1, e1, m2, rfl, g1, g2⟩ := sRow_copy_loop h h' hn hn' hd l.length 0 (qup m z 1 0) (by omega) (qRw_fr hl hf (by show ¬ (y = z ∨ y = z + 1); omega) (by show ¬ (y + 1 = z ∨ y + 1 = z + 1); omega)) ⟨by simp [qup], fun i hi => by simp at hi⟩
  exact ⟨n1, x1, _, e1, m2, rfl, g1, qFr_tr hf g2⟩
def qLv : List Int → Int
  | [] => 0
  | f :: t => (if f < 100 then 1 else 0) + qLv t
theorem qLv_app (a b : List Int) : qLv (a ++ b) = qLv a + qLv b := by
  induction a with
  | nil => simp [qLv]
  | cons x t ih => simp only [List.cons_append, qLv, ih]; omega
theorem qLv_le (l : List Int) : 0 ≤ qLv l ∧ qLv l ≤ l.length := by
  induction l with
  | nil => simp [qLv]
  | cons x t ih =>
    simp only [qLv, List.length_cons]
    split <;> omega
def qForm (T : List (Nat × Nat)) (r : Nat → Int → Option Nat) (z : Nat) : Prop := T[z]? = some (0, 0) ∧ r z 0 = some (z + 1) ∧ qRow T r (z + 1) 26
def qFm (m : Nat → Int → Int) (z : Nat) (fs : List Int) : Prop := qRw m (z + 1) fs ∧ m z 1 = qLv fs ∧ fs.length ≤ 26
theorem qFm_fr {P : Nat → Prop} {m m' : Nat → Int → Int} {z : Nat} {l : List Int} (h : qFm m z l) (f : qFr P m m') (h1 : ¬ P z) (h2 : ¬ P (z + 1)) (h3 : ¬ P (z + 2)) : qFm m' z l :=
  ⟨qRw_fr h.1 f h2 h3, by rw [f z h1]; exact h.2.1, h.2.2⟩
theorem qFr_Pz {z lo hi : Nat} {m m' : Nat → Int → Int} (h : qFr (qPz z) m m') (h1 : lo ≤ z) (h2 : z + 1 < hi) : qFr (qIv lo hi) m m' := qFr_mo h (fun a ha => by rcases ha with rfl | rfl <;> (constructor <;> omega))
theorem sForm_size {z : Nat} {fs : List Int} (h : qForm T r z) (hf : qFm m z fs) : qP m_Form_size [qK z] (T, m, r) (qI fs.length) := by
  refine qr_al rfl rfl (w := ?_)
  refine qr_gr rfl h.1 (hr := h.2.1) (w := ?_)
  refine qr_callP rfl (sRow_len h.2.2 hf.1) (qrcv1 h.2.2.1) (w := ?_)
  refine qW_ireturn rfl ?_
  exact ⟨rfl, rfl⟩
theorem sForm_leaves {z : Nat} {fs : List Int} (h : qForm T r z) (hf : qFm m z fs) : qP m_Form_leaves [qK z] (T, m, r) (qI (qLv fs)) := by
  refine qr_al rfl rfl (w := ?_)
  refine qr_gi rfl h.1 (w := ?_)
  refine qW_ireturn rfl ?_
  exact ⟨congrArg qI hf.2.1, rfl⟩
theorem sForm_branches {z : Nat} {fs : List Int} (h : qForm T r z) (hf : qFm m z fs) : qP m_Form_branches [qK z] (T, m, r) (qI (fs.length - qLv fs)) := by
  have hv := qLv_le fs
  have h2 := hf.2.2
  refine qr_al rfl rfl (w := ?_)
  refine qr_gr rfl h.1 (hr := h.2.1) (w := ?_)
  refine qr_callP rfl (sRow_len h.2.2 hf.1) (qrcv1 h.2.2.1) (w := ?_)
  refine qr_al rfl rfl (w := ?_)
  refine qr_gi rfl h.1 (w := ?_)
  refine qr_sub rfl (by rw [hf.2.1]; omega) (w := ?_)
  refine qW_ireturn rfl ?_
  exact ⟨by rw [hf.2.1], rfl⟩
theorem sForm_at {z : Nat} {i : Int} {fs : List Int} (h : qForm T r z) (hf : qFm m z fs) : qP m_Form_at [qK z, qI i] (T, m, r) (qI (qAt fs i)) := by
  refine qr_al rfl rfl (w := ?_)
  refine qr_gr rfl h.1 (hr := h.2.1) (w := ?_)
  refine qr_il rfl rfl (w := ?_)
  refine qr_callP rfl (sRow_at h.2.2 hf.1 hf.2.2) (qrcv1 h.2.2.1) (w := ?_)
  refine qW_ireturn rfl ?_
  exact ⟨rfl, rfl⟩
theorem sForm_isBranchAt {z : Nat} {i : Int} {fs : List Int} (h : qForm T r z) (hf : qFm m z fs) : qP m_Form_isBranchAt [qK z, qI i] (T, m, r) (qI (qbi (decide (100 ≤ qAt fs i)))) := by
  refine qr_al rfl rfl (w := ?_)
  refine qr_gr rfl h.1 (hr := h.2.1) (w := ?_)
  refine qr_il rfl rfl (w := ?_)
  refine qr_callP rfl (sRow_at h.2.2 hf.1 hf.2.2) (qrcv1 h.2.2.1) (w := ?_)
  refine qr_const rfl (w := ?_)
  refine qr_iclt rfl (fun hc => ?_) (fun hc => ?_)
  · refine qr_const rfl (w := ?_)
    refine qW_zreturn rfl (by first | exact Or.inl rfl | exact Or.inr rfl | (simp only [qbi]; split <;> simp)) ?_
    refine ⟨congrArg qI ?_, rfl⟩
    simp only [qbi]
    first | (rw [if_pos (decide_eq_true (by omega))]; done) | (rw [if_neg (fun h9 => by have := of_decide_eq_true h9; omega)]; done)
  · refine qr_const rfl (w := ?_)
    refine qr_goto rfl (w := ?_)
    refine qW_zreturn rfl (by first | exact Or.inl rfl | exact Or.inr rfl | (simp only [qbi]; split <;> simp)) ?_
    refine ⟨congrArg qI ?_, rfl⟩
    simp only [qbi]
    first | (rw [if_pos (decide_eq_true (by omega))]; done) | (rw [if_neg (fun h9 => by have := of_decide_eq_true h9; omega)]; done)
/-- the path of a field -/
def qPa (f : Int) : Int := if 100 ≤ f then f - 100 else f
theorem sForm_pathAt {z : Nat} {i : Int} {fs : List Int} (h : qForm T r z) (hf : qFm m z fs) (hb : qAt fs i < 1000) : qP m_Form_pathAt [qK z, qI i, none] (T, m, r) (qI (qPa (qAt fs i))) := by
  unfold qPa
  refine qr_al rfl rfl (w := ?_)
  refine qr_gr rfl h.1 (hr := h.2.1) (w := ?_)
  refine qr_il rfl rfl (w := ?_)
  refine qr_callP rfl (sRow_at h.2.2 hf.1 hf.2.2) (qrcv1 h.2.2.1) (w := ?_)
  refine qr_is2 rfl (w := ?_)
  refine qr_il rfl rfl (w := ?_)
  refine qr_const rfl (w := ?_)
  refine qr_iclt rfl (fun hc => ?_) (fun hc => ?_)
  · refine qr_il rfl rfl (w := ?_)
    refine qW_ireturn rfl ?_
    refine ⟨congrArg qI ?_, rfl⟩
    first | (rw [if_pos (by omega)]; done) | (rw [if_neg (by omega)]; done)
  · refine qr_il rfl rfl (w := ?_)
    refine qr_const rfl (w := ?_)
    refine qr_sub rfl (by omega) (w := ?_)
    refine qr_goto rfl (w := ?_)
    refine qW_ireturn rfl ?_
    refine ⟨congrArg qI ?_, rfl⟩
    first | (rw [if_pos (by omega)]; done) | (rw [if_neg (by omega)]; done)
abbrev qP2 (b pc : Nat) (L0 : List qA) (σ : qM) (v : qA) : Prop := qW b pc L0 [] σ (fun r σ' => r = v ∧ σ' = σ)
theorem sForm_holds_loop {z : Nat} {x : Int} {fs : List Int} (h : qForm T r z) (hf : qFm m z fs) : ∀ (k i : Nat), i + k = fs.length → qP2 m_Form_holds 2 [qK z, qI x, qI i] (T, m, r) (qI (qbi ((fs.drop i).contains x))) := by
  have h26 := hf.2.2
  intro k
  induction k with
  | zero =>
    intro i hik
    rw [qdrop_nil (by omega)]
    unfold qP2
    refine qr_il rfl rfl (w := ?_)
    refine qr_al rfl rfl (w := ?_)
    refine qr_gr rfl h.1 (hr := h.2.1) (w := ?_)
    refine qr_callP rfl (sRow_len h.2.2 hf.1) (qrcv1 h.2.2.1) (w := ?_)
    refine qr_icge rfl (fun hc => ?_) (fun hc => ?_)
    · refine qr_const rfl (w := ?_)
      refine qW_zreturn rfl (by first | exact Or.inl rfl | exact Or.inr rfl | (simp only [qbi]; split <;> simp)) ?_
      exact ⟨rfl, rfl⟩
    · exact absurd hc (by omega)
  | succ k ih =>
    intro i hik
    rw [qdrop (by omega)]
    unfold qP2
    refine qr_il rfl rfl (w := ?_)
    refine qr_al rfl rfl (w := ?_)
    refine qr_gr rfl h.1 (hr := h.2.1) (w := ?_)
    refine qr_callP rfl (sRow_len h.2.2 hf.1) (qrcv1 h.2.2.1) (w := ?_)
    refine qr_icge rfl (fun hc => ?_) (fun hc => ?_)
    · exact absurd hc (by omega)
    · refine qr_al rfl rfl (w := ?_)
      refine qr_gr rfl h.1 (hr := h.2.1) (w := ?_)
      refine qr_il rfl rfl (w := ?_)
      refine qr_callP rfl (sRow_at h.2.2 hf.1 hf.2.2) (qrcv1 h.2.2.1) (w := ?_)
      refine qr_il rfl rfl (w := ?_)
      refine qr_icne rfl (fun hcf => ?_) (fun hcf => ?_)
      · refine qr_inc2 rfl (by omega) (w := ?_)
        refine qr_goto rfl (w := ?_)
        rw [qAt_lt (by omega)] at hcf
        have h1 := ih (i + 1) (by omega)
        have h2 : (fs[i] :: fs.drop (i + 1)).contains x = (fs.drop (i + 1)).contains x := qcont hcf
        rw [h2]
        exact h1
      · refine qr_const rfl (w := ?_)
        refine qW_zreturn rfl (Or.inr rfl) ?_
        rw [qAt_lt (by omega)] at hcf
        refine ⟨?_, rfl⟩
        simp [List.contains_cons, hcf, qbi]
theorem sForm_holds {z : Nat} {x : Int} {fs : List Int} (h : qForm T r z) (hf : qFm m z fs) : qP m_Form_holds [qK z, qI x, none] (T, m, r) (qI (qbi (fs.contains x))) := by
  refine qr_const rfl (w := ?_)
  refine qr_is2 rfl (w := ?_)
  exact sForm_holds_loop h hf fs.length 0 (by omega)
/-- which leaf a path is, counted from a; -9: none -/
def qLp : List Int → Int → Int → Int
  | [], _, _ => -9
  | f :: t, p, a => if f = p then a else qLp t p (a + if f < 100 then 1 else 0)
theorem sForm_leafPlace_loop {z : Nat} {x : Int} {fs : List Int} (h : qForm T r z) (hf : qFm m z fs) : ∀ (k i : Nat) (a : Int), i + k = fs.length → 0 ≤ a → a ≤ i → qP2 m_Form_leafPlace 4 [qK z, qI x, qI a, qI i] (T, m, r) (qI (qLp (fs.drop i) x a)) := by
  have h26 := hf.2.2
  intro k
  induction k with
  | zero =>
    intro i a hik ha hb
    rw [qdrop_nil (by omega)]
    unfold qP2
    refine qr_il rfl rfl (w := ?_)
    refine qr_al rfl rfl (w := ?_)
    refine qr_gr rfl h.1 (hr := h.2.1) (w := ?_)
    refine qr_callP rfl (sRow_len h.2.2 hf.1) (qrcv1 h.2.2.1) (w := ?_)
    refine qr_icge rfl (fun hc => ?_) (fun hc => ?_)
    · refine qr_const rfl (w := ?_)
      refine qW_ireturn rfl ?_
      exact ⟨rfl, rfl⟩
    · exact absurd hc (by omega)
  | succ k ih =>
    intro i a hik ha hb
    rw [qdrop (by omega)]
    unfold qP2
    refine qr_il rfl rfl (w := ?_)
    refine qr_al rfl rfl (w := ?_)
    refine qr_gr rfl h.1 (hr := h.2.1) (w := ?_)
    refine qr_callP rfl (sRow_len h.2.2 hf.1) (qrcv1 h.2.2.1) (w := ?_)
    refine qr_icge rfl (fun hc => ?_) (fun hc => ?_)
    · exact absurd hc (by omega)
    · refine qr_al rfl rfl (w := ?_)
      refine qr_gr rfl h.1 (hr := h.2.1) (w := ?_)
      refine qr_il rfl rfl (w := ?_)
      refine qr_callP rfl (sRow_at h.2.2 hf.1 hf.2.2) (qrcv1 h.2.2.1) (w := ?_)
      refine qr_il rfl rfl (w := ?_)
      refine qr_icne rfl (fun hcf => ?_) (fun hcf => ?_)
      · refine qr_al rfl rfl (w := ?_)
        refine qr_il rfl rfl (w := ?_)
        refine qr_callP rfl (sForm_isBranchAt h hf) (qrcv1 h.1) (w := ?_)
        refine qr_ifneB rfl (fun hcft => ?_) (fun hcft => ?_)
        · refine qr_inc3 rfl (by omega) (w := ?_)
          refine qr_goto rfl (w := ?_)
          rw [qAt_lt (by omega)] at *
          have h1 := ih (i + 1) (a) (by omega) (by omega) (by omega)
          have h2 : qLp (fs[i] :: fs.drop (i + 1)) x a = qLp (fs.drop (i + 1)) x (a) := by
            have hx : ¬ fs[i] = x := by assumption
            simp only [decide_eq_true_eq, decide_eq_false_iff_not] at *
            simp only [qLp, if_neg hx]
            congr 1
            split <;> omega
          rw [h2]
          exact h1
        · refine qr_inc2 rfl (by omega) (w := ?_)
          refine qr_inc3 rfl (by omega) (w := ?_)
          refine qr_goto rfl (w := ?_)
          rw [qAt_lt (by omega)] at *
          have h1 := ih (i + 1) (a + 1) (by omega) (by omega) (by omega)
          have h2 : qLp (fs[i] :: fs.drop (i + 1)) x a = qLp (fs.drop (i + 1)) x (a + 1) := by
            have hx : ¬ fs[i] = x := by assumption
            simp only [decide_eq_true_eq, decide_eq_false_iff_not] at *
            simp only [qLp, if_neg hx]
            congr 1
            split <;> omega
          rw [h2]
          exact h1
      · refine qr_il rfl rfl (w := ?_)
        refine qW_ireturn rfl ?_
        rw [qAt_lt (by omega)] at hcf
        exact ⟨by simp [qLp, hcf], rfl⟩
theorem sForm_leafPlace {z : Nat} {x : Int} {fs : List Int} (h : qForm T r z) (hf : qFm m z fs) : qP m_Form_leafPlace [qK z, qI x, none, none] (T, m, r) (qI (qLp fs x 0)) := by
  refine qr_const rfl (w := ?_)
  refine qr_is2 rfl (w := ?_)
  refine qr_const rfl (w := ?_)
  refine qr_is3 rfl (w := ?_)
  exact sForm_leafPlace_loop h hf fs.length 0 0 (by omega) (by omega) (by omega)
theorem sForm_isSameAs_loop {z y : Nat} {fs gs : List Int} (h : qForm T r z) (hf : qFm m z fs) (h' : qForm T r y) (hg : qFm m y gs) (hl : fs.length = gs.length) : ∀ (k i : Nat), i + k = fs.length → qP2 m_Form_isSameAs 18 [qK z, qK y, qI i] (T, m, r) (qI (qbi (decide (fs.drop i = gs.drop i)))) := by
  have h26 := hf.2.2
  intro k
  induction k with
  | zero =>
    intro i hik
    rw [qdrop_nil (by omega), qdrop_nil (by omega)]
    unfold qP2
    refine qr_il rfl rfl (w := ?_)
    refine qr_al rfl rfl (w := ?_)
    refine qr_gr rfl h.1 (hr := h.2.1) (w := ?_)
    refine qr_callP rfl (sRow_len h.2.2 hf.1) (qrcv1 h.2.2.1) (w := ?_)
    refine qr_icge rfl (fun hc => ?_) (fun hc => ?_)
    · refine qr_const rfl (w := ?_)
      refine qW_zreturn rfl (by first | exact Or.inl rfl | exact Or.inr rfl | (simp only [qbi]; split <;> simp)) ?_
      exact ⟨rfl, rfl⟩
    · exact absurd hc (by omega)
  | succ k ih =>
    intro i hik
    rw [qdrop (l := fs) (by omega), qdrop (l := gs) (by omega)]
    unfold qP2
    refine qr_il rfl rfl (w := ?_)
    refine qr_al rfl rfl (w := ?_)
    refine qr_gr rfl h.1 (hr := h.2.1) (w := ?_)
    refine qr_callP rfl (sRow_len h.2.2 hf.1) (qrcv1 h.2.2.1) (w := ?_)
    refine qr_icge rfl (fun hc => ?_) (fun hc => ?_)
    · exact absurd hc (by omega)
    · refine qr_al rfl rfl (w := ?_)
      refine qr_gr rfl h.1 (hr := h.2.1) (w := ?_)
      refine qr_il rfl rfl (w := ?_)
      refine qr_callP rfl (sRow_at h.2.2 hf.1 hf.2.2) (qrcv1 h.2.2.1) (w := ?_)
      refine qr_al rfl rfl (w := ?_)
      refine qr_il rfl rfl (w := ?_)
      refine qr_callP rfl (sForm_at h' hg) (qrcv1 h'.1) (w := ?_)
      refine qr_iceq rfl (fun hcf => ?_) (fun hcf => ?_)
      · refine qr_inc2 rfl (by omega) (w := ?_)
        refine qr_goto rfl (w := ?_)
        rw [qAt_lt (by omega), qAt_lt (by omega)] at hcf
        have h1 := ih (i + 1) (by omega)
        simp only [List.cons.injEq, hcf, true_and]
        exact h1
      · refine qr_const rfl (w := ?_)
        refine qW_zreturn rfl (Or.inl rfl) ?_
        rw [qAt_lt (by omega), qAt_lt (by omega)] at hcf
        exact ⟨by simp only [List.cons.injEq, hcf, false_and]; rfl, rfl⟩
theorem sForm_isSameAs {z y : Nat} {fs gs : List Int} (h : qForm T r z) (hf : qFm m z fs) (h' : qForm T r y) (hg : qFm m y gs) : qP m_Form_isSameAs [qK z, qK y, none] (T, m, r) (qI (qbi (decide (fs = gs)))) := by
  refine qr_al rfl rfl (w := ?_)
  refine qr_gr rfl h.1 (hr := h.2.1) (w := ?_)
  refine qr_callP rfl (sRow_len h.2.2 hf.1) (qrcv1 h.2.2.1) (w := ?_)
  refine qr_al rfl rfl (w := ?_)
  refine qr_callP rfl (sForm_size h' hg) (qrcv1 h'.1) (w := ?_)
  refine qr_iceq rfl (fun hc => ?_) (fun hc => ?_)
  · refine qr_const rfl (w := ?_)
    refine qr_is2 rfl (w := ?_)
    exact sForm_isSameAs_loop h hf h' hg (by omega) fs.length 0 (by omega)
  · refine qr_const rfl (w := ?_)
    refine qW_zreturn rfl (Or.inl rfl) ?_
    have hne : ¬ fs = gs := fun e => hc (by rw [e])
    exact ⟨by rw [decide_eq_false hne]; rfl, rfl⟩
/-- how many leaves of one are in another -/
def qIc : List Int → List Int → Int
  | [], _ => 0
  | f :: t, gs => (if f < 100 ∧ f ∈ gs then 1 else 0) + qIc t gs
theorem qIc_le (l gs : List Int) : 0 ≤ qIc l gs ∧ qIc l gs ≤ l.length := by
  induction l with
  | nil => simp [qIc]
  | cons x t ih =>
    simp only [qIc, List.length_cons]
    split <;> omega
theorem sForm_leavesInCommon_loop {z y : Nat} {fs gs : List Int} (h : qForm T r z) (hf : qFm m z fs) (h' : qForm T r y) (hg : qFm m y gs) : ∀ (k i : Nat) (a : Int), i + k = fs.length → 0 ≤ a → a ≤ i → qP2 m_Form_leavesInCommon 4 [qK z, qK y, qI a, qI i] (T, m, r) (qI (a + qIc (fs.drop i) gs)) := by
  have h26 := hf.2.2
  intro k
  induction k with
  | zero =>
    intro i a hik ha hb
    rw [qdrop_nil (by omega)]
    unfold qP2
    refine qr_il rfl rfl (w := ?_)
    refine qr_al rfl rfl (w := ?_)
    refine qr_gr rfl h.1 (hr := h.2.1) (w := ?_)
    refine qr_callP rfl (sRow_len h.2.2 hf.1) (qrcv1 h.2.2.1) (w := ?_)
    refine qr_icge rfl (fun hc => ?_) (fun hc => ?_)
    · refine qr_il rfl rfl (w := ?_)
      refine qW_ireturn rfl ?_
      exact ⟨by simp [qIc], rfl⟩
    · exact absurd hc (by omega)
  | succ k ih =>
    intro i a hik ha hb
    rw [qdrop (by omega)]
    unfold qP2
    refine qr_il rfl rfl (w := ?_)
    refine qr_al rfl rfl (w := ?_)
    refine qr_gr rfl h.1 (hr := h.2.1) (w := ?_)
    refine qr_callP rfl (sRow_len h.2.2 hf.1) (qrcv1 h.2.2.1) (w := ?_)
    refine qr_icge rfl (fun hc => ?_) (fun hc => ?_)
    · exact absurd hc (by omega)
    · refine qr_al rfl rfl (w := ?_)
      refine qr_il rfl rfl (w := ?_)
      refine qr_callP rfl (sForm_isBranchAt h hf) (qrcv1 h.1) (w := ?_)
      refine qr_ifneB rfl (fun hcf => ?_) (fun hcf => ?_)
      · refine qr_inc3 rfl (by omega) (w := ?_)
        refine qr_goto rfl (w := ?_)
        rw [qAt_lt (by omega)] at *
        have h1 := ih (i + 1) (a) (by omega) (by omega) (by omega)
        have h2 : a + qIc (fs[i] :: fs.drop (i + 1)) gs = (a) + qIc (fs.drop (i + 1)) gs := by
          simp only [decide_eq_true_eq, decide_eq_false_iff_not, List.contains_iff_mem, Bool.not_eq_true, Bool.eq_false_iff, ne_eq] at *
          simp only [qIc]
          split <;> (simp_all; try omega)
        rw [h2]
        exact h1
      · refine qr_al rfl rfl (w := ?_)
        refine qr_al rfl rfl (w := ?_)
        refine qr_gr rfl h.1 (hr := h.2.1) (w := ?_)
        refine qr_il rfl rfl (w := ?_)
        refine qr_callP rfl (sRow_at h.2.2 hf.1 hf.2.2) (qrcv1 h.2.2.1) (w := ?_)
        refine qr_callP rfl (sForm_holds h' hg) (qrcv1 h'.1) (w := ?_)
        refine qr_ifeqB rfl (fun hcff => ?_) (fun hcff => ?_)
        · refine qr_inc3 rfl (by omega) (w := ?_)
          refine qr_goto rfl (w := ?_)
          rw [qAt_lt (by omega)] at *
          have h1 := ih (i + 1) (a) (by omega) (by omega) (by omega)
          have h2 : a + qIc (fs[i] :: fs.drop (i + 1)) gs = (a) + qIc (fs.drop (i + 1)) gs := by
            simp only [decide_eq_true_eq, decide_eq_false_iff_not, List.contains_iff_mem, Bool.not_eq_true, Bool.eq_false_iff, ne_eq] at *
            simp only [qIc]
            split <;> (simp_all; try omega)
          rw [h2]
          exact h1
        · refine qr_inc2 rfl (by omega) (w := ?_)
          refine qr_inc3 rfl (by omega) (w := ?_)
          refine qr_goto rfl (w := ?_)
          rw [qAt_lt (by omega)] at *
          have h1 := ih (i + 1) (a + 1) (by omega) (by omega) (by omega)
          have h2 : a + qIc (fs[i] :: fs.drop (i + 1)) gs = (a + 1) + qIc (fs.drop (i + 1)) gs := by
            simp only [decide_eq_true_eq, decide_eq_false_iff_not, List.contains_iff_mem, Bool.not_eq_true, Bool.eq_false_iff, ne_eq] at *
            simp only [qIc]
            split <;> (simp_all; try omega)
          rw [h2]
          exact h1
theorem sForm_leavesInCommon {z y : Nat} {fs gs : List Int} (h : qForm T r z) (hf : qFm m z fs) (h' : qForm T r y) (hg : qFm m y gs) : qP m_Form_leavesInCommon [qK z, qK y, none, none] (T, m, r) (qI (qIc fs gs)) := by
  refine qr_const rfl (w := ?_)
  refine qr_is2 rfl (w := ?_)
  refine qr_const rfl (w := ?_)
  refine qr_is3 rfl (w := ?_)
  have h1 := sForm_leavesInCommon_loop h hf h' hg fs.length 0 0 (by omega) (by omega) (by omega)
  rw [Int.zero_add] at h1
  exact h1
theorem sForm_clear {z : Nat} {fs : List Int} (h : qForm T r z) (hf : qFm m z fs) : qW m_Form_clear 0 [qK z] [] (T, m, r) (fun _ σ => ∃ m', σ = (T, m', r) ∧ qFm m' z [] ∧ qFr (qIv z (z + 3)) m m') := by
  refine qr_al rfl rfl (w := ?_)
  refine qr_gr rfl h.1 (hr := h.2.1) (w := ?_)
  refine qr_const rfl (w := ?_)
  refine qr_callV rfl (sRow_cut (k := 0) h.2.2 hf.1) (qrcv1 h.2.2.1) (w := fun _ σ hσ => ?_)
  obtain ⟨m1, rfl, hz1, hf1⟩ := hσ
  refine qr_al rfl rfl (w := ?_)
  refine qr_const rfl (w := ?_)
  refine qr_pi rfl h.1 (w := ?_)
  refine qW_return rfl ?_
  refine ⟨_, rfl, ⟨qRw_fr hz1 (qFr_up (P := fun a => a = z) rfl) (by show ¬ z + 1 = z; omega) (by show ¬ z + 1 + 1 = z; omega), qup_s, by simp⟩, qFr_tr (qFr_mo hf1 (fun a ha => ?_)) (qFr_up ⟨by omega, by omega⟩)⟩
  subst ha
  constructor <;> omega
theorem sForm_add {z : Nat} {x : Int} {fs : List Int} (h : qForm T r z) (hf : qFm m z fs) (hl : fs.length < 26) : qW m_Form_add 0 [qK z, qI x] [] (T, m, r) (fun _ σ => ∃ m', σ = (T, m', r) ∧ qFm m' z (fs ++ [x]) ∧ qFr (qIv z (z + 3)) m m') := by
  have hv := qLv_le fs
  refine qr_al rfl rfl (w := ?_)
  refine qr_gr rfl h.1 (hr := h.2.1) (w := ?_)
  refine qr_il rfl rfl (w := ?_)
  refine qr_callV rfl (sRow_add h.2.2 hf.1 hl) (qrcv1 h.2.2.1) (w := fun _ σ hσ => ?_)
  obtain ⟨m1, rfl, hz1, hf1⟩ := hσ
  have hz0 : m1 z 1 = qLv fs := by rw [hf1 z (by show ¬ (z = z + 1 ∨ z = z + 1 + 1); omega)]; exact hf.2.1
  refine qr_il rfl rfl (w := ?_)
  refine qr_const rfl (w := ?_)
  refine qr_icge rfl (fun hc => ?_) (fun hc => ?_)
  · first
      | (refine qW_return rfl ⟨_, rfl, ⟨hz1, ?_, by simp; omega⟩, qFr_Pz hf1 (by omega) (by omega)⟩
         rw [hz0, qLv_app]
         simp only [qLv]
         split <;> omega)
      | (refine qW_return rfl ⟨_, rfl, ⟨qRw_fr hz1 (qFr_up (P := fun a => a = z) rfl) (by show ¬ z + 1 = z; omega) (by show ¬ z + 1 + 1 = z; omega), ?_, by simp; omega⟩, qFr_tr (qFr_Pz hf1 (by omega) (by omega)) (qFr_up ⟨by omega, by omega⟩)⟩
         rw [qup_s, hz0, qLv_app]
         simp only [qLv]
         split <;> omega)
  · refine qr_al rfl rfl (w := ?_)
    refine qr_dup rfl (w := ?_)
    refine qr_gi rfl h.1 (w := ?_)
    refine qr_const rfl (w := ?_)
    refine qr_add rfl (by omega) (w := ?_)
    refine qr_pi rfl h.1 (w := ?_)
    first
      | (refine qW_return rfl ⟨_, rfl, ⟨hz1, ?_, by simp; omega⟩, qFr_Pz hf1 (by omega) (by omega)⟩
         rw [hz0, qLv_app]
         simp only [qLv]
         split <;> omega)
      | (refine qW_return rfl ⟨_, rfl, ⟨qRw_fr hz1 (qFr_up (P := fun a => a = z) rfl) (by show ¬ z + 1 = z; omega) (by show ¬ z + 1 + 1 = z; omega), ?_, by simp; omega⟩, qFr_tr (qFr_Pz hf1 (by omega) (by omega)) (qFr_up ⟨by omega, by omega⟩)⟩
         rw [qup_s, hz0, qLv_app]
         simp only [qLv]
         split <;> omega)
theorem sForm_copyFrom {z y : Nat} {gs : List Int} (h : qForm T r z) (h' : qForm T r y) (hg : qFm m y gs) (hd : z + 3 ≤ y ∨ y + 3 ≤ z) : qW m_Form_copyFrom 0 [qK z, qK y] [] (T, m, r) (fun _ σ => ∃ m', σ = (T, m', r) ∧ qFm m' z gs ∧ qFr (qIv z (z + 3)) m m') := by
  refine qr_al rfl rfl (w := ?_)
  refine qr_gr rfl h.1 (hr := (by first | exact h.2.1 | exact h'.2.1)) (w := ?_)
  refine qr_al rfl rfl (w := ?_)
  refine qr_gr rfl h'.1 (hr := (by first | exact h.2.1 | exact h'.2.1)) (w := ?_)
  refine qr_callV rfl (sRow_copy h.2.2 h'.2.2 hg.1 hg.2.2 hg.2.2 (by omega)) (qrcv1 h.2.2.1) (w := fun _ σ hσ => ?_)
  obtain ⟨m1, rfl, hz1, hf1⟩ := hσ
  have hz0 : m1 y 1 = qLv gs := by rw [hf1 y (by show ¬ (y = z + 1 ∨ y = z + 1 + 1); omega)]; exact hg.2.1
  refine qr_al rfl rfl (w := ?_)
  refine qr_al rfl rfl (w := ?_)
  refine qr_gi rfl h'.1 (w := ?_)
  refine qr_pi rfl h.1 (w := ?_)
  refine qW_return rfl ?_
  refine ⟨_, rfl, ⟨qRw_fr hz1 (qFr_up (P := fun a => a = z) rfl) (by show ¬ z + 1 = z; omega) (by show ¬ z + 1 + 1 = z; omega), ?_, hg.2.2⟩, qFr_tr (qFr_Pz hf1 (by omega) (by omega)) (qFr_up ⟨by omega, by omega⟩)⟩
  rw [qup_s, hz0]
