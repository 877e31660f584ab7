/-! What holds while a text is read -/
def qWq (ps : List (Int × Int)) : Prop := ∀ (i : Nat) (h : i < ps.length), 97 ≤ ps[i].1 ∧ ps[i].1 ≤ 122 ∧ ps[i].2 < i ∧ (ps[i].2 = -9 ∨ 0 ≤ ps[i].2)
theorem qOu_rn {ps : List (Int × Int)} (h : qWq ps) (p : Int) : (qOu ps p = -9 ∨ 0 ≤ qOu ps p) ∧ (0 ≤ p → qOu ps p < p) ∧ qOu ps p < ps.length := by
  by_cases hp : 0 ≤ p ∧ p < ps.length
  · have h1 := h p.toNat (by omega)
    have h2 := qOu_at (ps := ps) (i := p.toNat) (by omega)
    rw [Int.toNat_of_nonneg hp.1] at h2
    have h3 : qOu ps p = ps[p.toNat].2 := h2
    rw [h3]
    exact ⟨h1.2.2.2, fun _ => by omega, by omega⟩
  · have h3 : qOu ps p = -9 := by
      unfold qOu qAt
      rw [List.length_map, if_neg hp]
    rw [h3]
    exact ⟨Or.inl rfl, fun _ => by omega, by omega⟩
/-- the open record behind some fields -/
def qEo (ps : List (Int × Int)) : List Int → Int → Int
  | [], u => u
  | f :: t, u => qEo ps t (if 100 ≤ f then qPa f else qOu ps (qPa f))
def qLast (fs : List Int) : Int := fs.getLastD 91
theorem qNs_app (ps : List (Int × Int)) (f : Int) : ∀ (fs : List Int) (u : Int), qNs ps (fs ++ [f]) u ↔ qNs ps fs u ∧ qIn ps 3 (qEo ps fs u) (qOu ps (qPa f)) ∧ (100 ≤ f → qDp ps 3 (qPa f)) := by
  intro fs
  induction fs with
  | nil => intro u; simp [qNs, qEo]
  | cons x t ih =>
    intro u
    simp only [List.cons_append, qNs, qEo, ih]
    constructor
    · rintro ⟨a, b, c, d⟩; exact ⟨⟨a, b, c⟩, d⟩
    · rintro ⟨⟨a, b, c⟩, d⟩; exact ⟨a, b, c, d⟩
theorem qEo_app (ps : List (Int × Int)) (f : Int) : ∀ (fs : List Int) (u : Int), qEo ps (fs ++ [f]) u = if 100 ≤ f then qPa f else qOu ps (qPa f) := by
  intro fs
  induction fs with
  | nil => intro u; simp [qEo]
  | cons x t ih => intro u; simp only [List.cons_append, qEo, ih]
theorem qTc_app (ps : List (Int × Int)) (f : Int) : ∀ (fs : List Int) (v : Int), qTc ps (fs ++ [f]) v = qTc ps fs v + ((if fs.getLastD v = 100 + qOu ps (qPa f) then 2 else 3) + (if 100 ≤ f then 2 else 0)) := by
  intro fs
  induction fs with
  | nil => intro v; simp [qTc]
  | cons x t ih =>
    intro v
    simp only [List.cons_append, qTc, ih]
    have : (x :: t).getLastD v = t.getLastD x := List.getLastD_cons
    rw [this]
    omega
theorem qLast_app (fs : List Int) (f : Int) : qLast (fs ++ [f]) = f := by simp [qLast]
section pre
variable {ps P : List (Int × Int)}
theorem qDp_pre (h : ps <+: P) (hw : qWq ps) : ∀ (n : Nat) (u : Int), u < ps.length → qDp ps n u → qDp P n u := by
  intro n
  induction n with
  | zero => intro u _ h1; exact h1
  | succ n ih =>
    intro u hu h1
    rcases h1 with h1 | h1
    · exact Or.inl h1
    · refine Or.inr ?_
      rw [qOu_pre h hu]
      exact ih _ (qOu_rn hw u).2.2 h1
theorem qIn_pre (h : ps <+: P) (hw : qWq ps) : ∀ (n : Nat) (u x : Int), u < ps.length → qIn ps n u x → qIn P n u x := by
  intro n
  induction n with
  | zero => intro u x _ h1; exact h1
  | succ n ih =>
    intro u x hu h1
    rcases h1 with h1 | h1
    · exact Or.inl h1
    · refine Or.inr ⟨h1.1, ?_⟩
      rw [qOu_pre h hu]
      exact ih _ _ (qOu_rn hw u).2.2 h1.2
theorem qNs_pre (h : ps <+: P) (hw : qWq ps) : ∀ (fs : List Int) (u : Int), (∀ f ∈ fs, qPa f < ps.length) → u < ps.length → qNs ps fs u → qNs P fs u := by
  intro fs
  induction fs with
  | nil => intro u _ _ _; trivial
  | cons f t ih =>
    intro u hf hu h1
    have hf0 := hf f List.mem_cons_self
    simp only [qNs] at h1 ⊢
    rw [qOu_pre h hf0]
    refine ⟨qIn_pre h hw 3 _ _ hu h1.1, fun hb => qDp_pre h hw 3 _ hf0 (h1.2.1 hb), ih _ (fun g hg => hf g (List.mem_cons_of_mem _ hg)) ?_ h1.2.2⟩
    split
    · exact hf0
    · exact (qOu_rn hw _).2.2
theorem qEo_pre (h : ps <+: P) : ∀ (fs : List Int) (u : Int), (∀ f ∈ fs, qPa f < ps.length) → qEo P fs u = qEo ps fs u := by
  intro fs
  induction fs with
  | nil => intro u _; rfl
  | cons f t ih =>
    intro u hf
    simp only [qEo]
    rw [qOu_pre h (hf f List.mem_cons_self), ih _ (fun g hg => hf g (List.mem_cons_of_mem _ hg))]
theorem qTc_pre (h : ps <+: P) : ∀ (fs : List Int) (v : Int), (∀ f ∈ fs, qPa f < ps.length) → qTc P fs v = qTc ps fs v := by
  intro fs
  induction fs with
  | nil => intro v _; rfl
  | cons f t ih =>
    intro v hf
    simp only [qTc]
    rw [qOu_pre h (hf f List.mem_cons_self), ih _ (fun g hg => hf g (List.mem_cons_of_mem _ hg))]
end pre
theorem qFi_at (l u : Int) : ∀ (ps : List (Int × Int)) (a : Nat), qFi ps l u a < a + ps.length → ps.getD (qFi ps l u a - a) (0, 0) = (l, u) := by
  intro ps
  induction ps with
  | nil => intro a h; simp [qFi] at h
  | cons p t ih =>
    intro a h
    simp only [qFi] at h ⊢
    split
    · rename_i h1
      rw [Nat.sub_self]
      show p = (l, u)
      rw [← h1.1, ← h1.2]
    · rename_i h1
      rw [if_neg h1, List.length_cons] at h
      have h2 := ih (a + 1) (by omega)
      have h3 := qFi_le t l u (a + 1)
      rw [show qFi t l u (a + 1) - a = (qFi t l u (a + 1) - (a + 1)) + 1 by omega]
      exact h2
theorem qFi_no (l u : Int) : ∀ (ps : List (Int × Int)) (a : Nat), qFi ps l u a = a + ps.length → (l, u) ∉ ps := by
  intro ps
  induction ps with
  | nil => intro a _; simp
  | cons p t ih =>
    intro a h
    simp only [qFi] at h
    split at h
    · rw [List.length_cons] at h; omega
    · rename_i h1
      rw [List.length_cons] at h
      have h2 := ih (a + 1) (by omega)
      intro hm
      rcases List.mem_cons.mp hm with e | e
      · exact h1 ⟨by rw [← e], by rw [← e]⟩
      · exact h2 e
/-- a path that is looked up, or comes new -/
theorem qAd_spec (ps : List (Int × Int)) (l u : Int) : ps <+: qAd ps l u ∧ qFi ps l u 0 < (qAd ps l u).length ∧ (qAd ps l u).length ≤ ps.length + 1 ∧ (qAd ps l u).getD (qFi ps l u 0) (0, 0) = (l, u) := by
  have hle := qFi_le ps l u 0
  unfold qAd
  split
  · rename_i h
    have h1 := qFi_at l u ps 0 (by omega)
    exact ⟨List.prefix_refl _, h, by omega, h1⟩
  · rename_i h
    have e : qFi ps l u 0 = ps.length := by omega
    rw [e]
    refine ⟨List.prefix_append _ _, by simp, by simp, ?_⟩
    rw [List.getD_eq_getElem?_getD, List.getElem?_append_right (Nat.le_refl _)]
    simp
theorem qAd_wq {ps : List (Int × Int)} {l u : Int} (hw : qWq ps) (hl : 97 ≤ l ∧ l ≤ 122) (hu : u = -9 ∨ (0 ≤ u ∧ u < ps.length)) : qWq (qAd ps l u) := by
  unfold qAd
  split
  · exact hw
  · intro i hi
    rw [List.length_append] at hi
    simp only [List.length_cons, List.length_nil] at hi
    by_cases h : i < ps.length
    · rw [List.getElem_append_left h]
      exact hw i h
    · have e : i = ps.length := by omega
      subst e
      rw [List.getElem_append_right (Nat.le_refl _)]
      simp only [Nat.sub_self, List.getElem_cons_zero]
      exact ⟨hl.1, hl.2, by omega, by omega⟩
theorem qAd_nd {ps : List (Int × Int)} {l u : Int} (h : ps.Nodup) : (qAd ps l u).Nodup := by
  unfold qAd
  split
  · exact h
  · rename_i h1
    have hle := qFi_le ps l u 0
    have h2 := qFi_no l u ps 0 (by omega)
    rw [List.nodup_append]
    refine ⟨h, by simp, fun a ha b hb e => ?_⟩
    simp only [List.mem_singleton] at hb
    subst hb
    subst e
    exact h2 ha
theorem qGd_ou {ps : List (Int × Int)} {k : Nat} {l u : Int} (h : k < ps.length) (he : ps.getD k (0, 0) = (l, u)) : qOu ps k = u ∧ qLe ps k = l := by
  rw [List.getD_eq_getElem?_getD, List.getElem?_eq_getElem h] at he
  have he : ps[k] = (l, u) := he
  unfold qOu qLe
  rw [qOu_at h, qLe_at h, he]
  exact ⟨rfl, rfl⟩
/-- the cost of a comma ahead of a field in the open record -/
def qCm (fs : List Int) (op : Int) : Int := if qLast fs = 100 + op then 0 else 1
theorem qCm_01 (fs : List Int) (op : Int) : 0 ≤ qCm fs op ∧ qCm fs op ≤ 1 := by
  unfold qCm
  split <;> omega
/-- what holds of the reading behind i signs -/
def qRJ (i : Nat) (s : qRd) : Prop :=
  (qWq s.1 ∧ s.1.Nodup) ∧ (∀ f ∈ s.2.1, 0 ≤ f ∧ 0 ≤ qPa f ∧ qPa f < s.1.length ∧ (f < 91 ∨ 100 ≤ f)) ∧ ((s.2.2.1.length : Int) = qLv s.2.1 ∧ s.2.2.1.length ≤ 10 ∧ ∀ v ∈ s.2.2.1, 0 ≤ v ∧ v ≤ 999) ∧ (s.2.1.map qPa).Nodup ∧
  (s.2.2.2.2.2.1 = -9 ∨ (0 ≤ s.2.2.2.2.2.1 ∧ s.2.2.2.2.2.1 < s.1.length)) ∧ qDp s.1 (s.2.2.2.2.1 - 1).toNat s.2.2.2.2.2.1 ∧ (qNs s.1 s.2.1 (-9) ∧ qIn s.1 3 (qEo s.1 s.2.1 (-9)) s.2.2.2.2.2.1 ∧ qDp s.1 3 (qEo s.1 s.2.1 (-9))) ∧ (-9 ≤ s.2.2.2.2.2.2 ∧ s.2.2.2.2.2.2 ≤ 1000) ∧
  ((s.2.2.2.1 = 0 ∧ s.2.2.2.2.1 = 0 ∧ s.2.1 = [] ∧ s.2.2.2.2.2.1 = -9 ∧ s.1.length ≤ 60) ∨
   (s.2.2.2.1 = 1 ∧ (1 ≤ s.2.2.2.2.1 ∧ s.2.2.2.2.1 ≤ 4) ∧ 4 * s.2.1.length + 2 ≤ i + s.2.2.2.2.1 ∧ s.1.length ≤ 60 + s.2.1.length ∧ 2 + (qTc s.1 s.2.1 91 : Nat) + qLv s.2.1 - s.2.2.2.2.1 ≤ i ∧ qLast s.2.1 = 100 + s.2.2.2.2.2.1) ∨
   (s.2.2.2.1 = 2 ∧ (1 ≤ s.2.2.2.2.1 ∧ s.2.2.2.2.1 ≤ 4) ∧ 4 * s.2.1.length + 2 ≤ i + s.2.2.2.2.1 ∧ s.1.length ≤ 60 + s.2.1.length ∧ 3 + (qTc s.1 s.2.1 91 : Nat) + qLv s.2.1 - s.2.2.2.2.1 ≤ i) ∨
   (s.2.2.2.1 = 3 ∧ (1 ≤ s.2.2.2.2.1 ∧ s.2.2.2.2.1 ≤ 4) ∧ 4 * s.2.1.length + 3 ≤ i + s.2.2.2.2.1 ∧ s.1.length ≤ 61 + s.2.1.length ∧ 3 + qCm s.2.1 s.2.2.2.2.2.1 + (qTc s.1 s.2.1 91 : Nat) + qLv s.2.1 - s.2.2.2.2.1 ≤ i ∧ (0 ≤ s.2.2.2.2.2.2 ∧ s.2.2.2.2.2.2 < s.1.length ∧ s.2.2.2.2.2.2 ∉ s.2.1.map qPa ∧ qOu s.1 s.2.2.2.2.2.2 = s.2.2.2.2.2.1)) ∨
   (s.2.2.2.1 = 4 ∧ (1 ≤ s.2.2.2.2.1 ∧ s.2.2.2.2.1 ≤ 4) ∧ 4 * s.2.1.length + 4 ≤ i + s.2.2.2.2.1 ∧ s.1.length ≤ 61 + s.2.1.length ∧ 4 + qCm s.2.1 s.2.2.2.2.2.1 + (qTc s.1 s.2.1 91 : Nat) + qLv s.2.1 - s.2.2.2.2.1 ≤ i ∧ (0 ≤ s.2.2.2.2.2.2 ∧ s.2.2.2.2.2.2 < s.1.length ∧ s.2.2.2.2.2.2 ∉ s.2.1.map qPa ∧ qOu s.1 s.2.2.2.2.2.2 = s.2.2.2.2.2.1)) ∨
   ((s.2.2.2.1 = 5 ∨ s.2.2.2.1 = 6) ∧ (1 ≤ s.2.2.2.2.1 ∧ s.2.2.2.2.1 ≤ 4) ∧ 4 * s.2.1.length + 1 ≤ i + s.2.2.2.2.1 ∧ s.1.length ≤ 60 + s.2.1.length ∧ 2 + (qTc s.1 s.2.1 91 : Nat) + qLv s.2.1 - s.2.2.2.2.1 ≤ i) ∨
   (s.2.2.2.1 = 7 ∧ s.2.2.2.2.1 = 0 ∧ s.2.2.2.2.2.1 = -9 ∧ 4 * s.2.1.length + 1 ≤ i ∧ s.1.length ≤ 60 + s.2.1.length ∧ 2 + (qTc s.1 s.2.1 91 : Nat) + qLv s.2.1 ≤ i))
theorem qRJ_pre {i : Nat} {s : qRd} (h : qRJ i s) (hi : i < 80) : qRp s := by
  obtain ⟨ps, fs, ns, st, lv, op, nm⟩ := s
  obtain ⟨-, -, -, -, -, -, -, h8, h9⟩ := h
  dsimp only at h8 h9
  unfold qRp
  dsimp only
  rcases h9 with h9 | h9 | h9 | h9 | h9 | h9 | h9
  · obtain ⟨-, h2, h3, -, h5⟩ := h9
    subst h3
    simp only [List.length_nil]
    omega
  all_goals omega
theorem qPa_l {p : Int} (h : p < 100) : qPa p = p := by
  unfold qPa
  rw [if_neg (by omega)]
theorem qPa_b {p : Int} (h : 0 ≤ p) : qPa (100 + p) = p := by
  unfold qPa
  rw [if_pos (by omega)]
  omega
theorem qIn_rf {ps : List (Int × Int)} : ∀ (n : Nat) (u : Int), qIn ps n u u := by
  intro n u
  cases n with
  | zero => rfl
  | succ n => exact Or.inl rfl
theorem qIn_up {ps : List (Int × Int)} : ∀ (n : Nat) (u x : Int), qDp ps n u → qIn ps n u x → qIn ps n u (qOu ps x) := by
  intro n
  induction n with
  | zero =>
    intro u x h1 h2
    have e1 : u = -9 := h1
    have e2 : u = x := h2
    subst e2
    show u = qOu ps u
    rw [e1]
    exact qPa_neg.symm
  | succ n ih =>
    intro u x h1 h2
    rcases h2 with h2 | ⟨h2, h3⟩
    · subst h2
      by_cases h9 : u = -9
      · refine Or.inl ?_
        rw [h9]
        exact qPa_neg.symm
      · exact Or.inr ⟨h9, qIn_rf _ _⟩
    · rcases h1 with h1 | h1
      · exact absurd h1 h2
      · exact Or.inr ⟨h2, ih _ _ h1 h3⟩
theorem qDp_9 {ps : List (Int × Int)} : ∀ n, qDp ps n (-9) := by
  intro n
  cases n with
  | zero => rfl
  | succ n => exact Or.inl rfl
theorem qDp_mono {ps : List (Int × Int)} : ∀ (n k : Nat) (u : Int), n ≤ k → qDp ps n u → qDp ps k u := by
  intro n
  induction n with
  | zero =>
    intro k u _ h
    have e : u = -9 := h
    rw [e]
    exact qDp_9 k
  | succ n ih =>
    intro k u hk h
    obtain ⟨k, rfl⟩ : ∃ j, k = j + 1 := ⟨k - 1, by omega⟩
    rcases h with h | h
    · exact Or.inl h
    · exact Or.inr (ih k _ (by omega) h)
theorem qDp_ou {ps : List (Int × Int)} {n : Nat} {u : Int} (h : qDp ps (n + 1) u) : qDp ps n (qOu ps u) := by
  rcases h with h | h
  · rw [h, qPa_neg]
    exact qDp_9 n
  · exact h
theorem qTc_last (ps : List (Int × Int)) (fs : List Int) (f op : Int) (h : qOu ps (qPa f) = op) : (qTc ps (fs ++ [f]) 91 : Int) = qTc ps fs 91 + 2 + qCm fs op + (if 100 ≤ f then 2 else 0) := by
  rw [qTc_app, h]
  unfold qCm qLast
  split <;> split <;> omega
theorem qNot_in {fs : List Int} {k : Int} (h1 : fs.contains k = false) (h2 : fs.contains (100 + k) = false) : k ∉ fs.map qPa := by
  intro h
  obtain ⟨f, hf, e⟩ := List.mem_map.mp h
  unfold qPa at e
  split at e
  · have : f = 100 + k := by omega
    subst this
    rw [← List.contains_iff_mem] at hf
    rw [h2] at hf
    cases hf
  · subst e
    rw [← List.contains_iff_mem] at hf
    rw [h1] at hf
    cases hf
theorem qNd_app {l : List Int} {x : Int} (h : l.Nodup) (hx : x ∉ l) : (l ++ [x]).Nodup := by
  rw [List.nodup_append]
  refine ⟨h, by simp, fun a ha b hb e => ?_⟩
  simp only [List.mem_singleton] at hb
  subst hb
  subst e
  exact hx ha
section step
variable {i : Nat} {ps : List (Int × Int)} {fs ns : List Int} {st lv op nm c : Int}
theorem qRJ_sp (h : qRJ i (ps, fs, ns, st, lv, op, nm)) : qRJ (i + 1) (qSpc (ps, fs, ns, st, lv, op, nm)) := by
  obtain ⟨h1, h2, h3, h4, h5, h6, h7, h8, h9⟩ := h
  refine ⟨h1, h2, h3, h4, h5, h6, h7, h8, ?_⟩
  dsimp only [qSpc] at h9 ⊢
  rcases h9 with h9 | h9 | h9 | h9 | h9 | h9 | h9
  · obtain ⟨a, b⟩ := h9
    rw [if_neg (by omega)]
    exact Or.inl ⟨a, b⟩
  · obtain ⟨a, b, c, d, e, f⟩ := h9
    rw [if_neg (by omega)]
    exact Or.inr (Or.inl ⟨a, b, by omega, by omega, by omega, f⟩)
  · obtain ⟨a, b, c, d, e⟩ := h9
    rw [if_neg (by omega)]
    exact Or.inr (Or.inr (Or.inl ⟨a, b, by omega, by omega, by omega⟩))
  · obtain ⟨a, b, c, d, e, f⟩ := h9
    rw [if_neg (by omega)]
    exact Or.inr (Or.inr (Or.inr (Or.inl ⟨a, b, by omega, by omega, by omega, f⟩)))
  · obtain ⟨a, b, c, d, e, f⟩ := h9
    rw [if_neg (by omega)]
    exact Or.inr (Or.inr (Or.inr (Or.inr (Or.inl ⟨a, b, by omega, by omega, by omega, f⟩))))
  · obtain ⟨a, b, c, d, e⟩ := h9
    refine Or.inr (Or.inr (Or.inr (Or.inr (Or.inr (Or.inl ⟨?_, b, by omega, by omega, by omega⟩)))))
    split <;> omega
  · obtain ⟨a, b, c, d, e, f⟩ := h9
    rw [if_neg (by omega)]
    exact Or.inr (Or.inr (Or.inr (Or.inr (Or.inr (Or.inr ⟨a, b, c, by omega, by omega, by omega⟩)))))
theorem qRJ_cl (h : qRJ i (ps, fs, ns, st, lv, op, nm)) (hs : st = 1 ∨ st = 5 ∨ st = 6) : qRJ (i + 1) (qCls (ps, fs, ns, st, lv, op, nm)).2 := by
  obtain ⟨h1, h2, h3, h4, h5, h6, h7, h8, h9⟩ := h
  dsimp only [qCls] at *
  have hk : (1 ≤ lv ∧ lv ≤ 4) ∧ 4 * (fs.length : Int) + 1 ≤ i + lv ∧ ps.length ≤ 60 + fs.length ∧ 2 + (qTc ps fs 91 : Nat) + qLv fs - lv ≤ i := by
    rcases h9 with h9 | h9 | h9 | h9 | h9 | h9 | h9
    · omega
    · obtain ⟨a, b, c, d, e, f⟩ := h9; exact ⟨b, by omega, by omega, by omega⟩
    · omega
    · omega
    · omega
    · obtain ⟨a, b, c, d, e⟩ := h9; exact ⟨b, by omega, by omega, by omega⟩
    · omega
  obtain ⟨k1, k2, k3, k4⟩ := hk
  have hr := qOu_rn h1.1 op
  refine ⟨h1, h2, h3, h4, by dsimp only; omega, ?_, ⟨h7.1, qIn_up 3 _ _ h7.2.2 h7.2.1, h7.2.2⟩, h8, ?_⟩
  · dsimp only
    by_cases hl : lv = 1
    · rw [hl] at h6
      have e : op = -9 := h6
      rw [e, qPa_neg]
      exact qDp_9 _
    · have e : (lv - 1).toNat = (lv - 1 - 1).toNat + 1 := by omega
      rw [e] at h6
      exact qDp_ou h6
  · dsimp only
    by_cases hl : lv - 1 = 0
    · rw [if_pos hl]
      have e0 : lv = 1 := by omega
      rw [e0] at h6
      have e : op = -9 := h6
      refine Or.inr (Or.inr (Or.inr (Or.inr (Or.inr (Or.inr ⟨rfl, hl, ?_, by omega, by omega, by omega⟩)))))
      rw [e]
      exact qPa_neg
    · rw [if_neg hl]
      exact Or.inr (Or.inr (Or.inr (Or.inr (Or.inr (Or.inl ⟨Or.inr rfl, ⟨by omega, by omega⟩, by omega, by omega, by omega⟩)))))
theorem qRJ_op0 (h : qRJ i (ps, fs, ns, st, lv, op, nm)) (hs : st = 0) (ht : (qOpn (ps, fs, ns, st, lv, op, nm) c (-9)).1 = true) : qRJ (i + 1) (qOpn (ps, fs, ns, st, lv, op, nm) c (-9)).2 := by
  obtain ⟨h1, h2, h3, h4, h5, h6, h7, h8, h9⟩ := h
  dsimp only [qOpn] at *
  by_cases hc : c ≠ 123 ∨ 4 ≤ lv
  · rw [if_pos hc] at ht
    cases ht
  · rw [if_neg hc]
    rcases h9 with h9 | h9 | h9 | h9 | h9 | h9 | h9
    · obtain ⟨a, b, c, d, e⟩ := h9
      dsimp only
      rw [if_pos rfl]
      subst c
      refine ⟨h1, h2, h3, h4, Or.inl rfl, ?_, ⟨trivial, qIn_rf _ _, qDp_9 _⟩, h8, Or.inr (Or.inl ⟨rfl, ?_⟩)⟩
      · exact qDp_9 _
      · dsimp only [qTc, qLv, qLast, List.length_nil]
        refine ⟨⟨by omega, by omega⟩, by omega, by omega, by omega, rfl⟩
    all_goals omega
theorem qRJ_op4 (h : qRJ i (ps, fs, ns, st, lv, op, nm)) (hs : st = 4) (ht : (qOpn (ps, fs, ns, st, lv, op, nm) c nm).1 = true) : qRJ (i + 1) (qOpn (ps, fs, ns, st, lv, op, nm) c nm).2 := by
  obtain ⟨h1, h2, h3, h4, h5, h6, h7, h8, h9⟩ := h
  dsimp only [qOpn] at *
  by_cases hc : c ≠ 123 ∨ 4 ≤ lv
  · rw [if_pos hc] at ht
    cases ht
  · rw [if_neg hc]
    rcases h9 with h9 | h9 | h9 | h9 | h9 | h9 | h9
    · omega
    · omega
    · omega
    · omega
    · obtain ⟨a, b, c, d, e, f1, f2, f3, f4⟩ := h9
      dsimp only
      rw [if_neg (by omega)]
      have hpa : qPa (100 + nm) = nm := qPa_b f1
      have ho : qOu ps (qPa (100 + nm)) = op := by rw [hpa]; exact f4
      have hl : qLv (fs ++ [100 + nm]) = qLv fs := by
        rw [qLv_app]
        simp only [qLv]
        rw [if_neg (by omega)]
        omega
      have hdn : qDp ps 3 nm := by
        have e1 : qDp ps ((lv - 1).toNat + 1) nm := Or.inr (by rw [f4]; exact h6)
        exact qDp_mono _ 3 _ (by omega) e1
      refine ⟨h1, ?_, ?_, ?_, Or.inr ⟨f1, f2⟩, ?_, ⟨?_, ?_, ?_⟩, h8, Or.inr (Or.inl ⟨rfl, ?_⟩)⟩
      · intro f hf
        rcases List.mem_append.mp hf with hf | hf
        · exact h2 f hf
        · simp only [List.mem_singleton] at hf
          subst hf
          rw [hpa]
          exact ⟨by omega, f1, f2, Or.inr (by omega)⟩
      · dsimp only
        rw [hl]
        exact h3
      · dsimp only
        rw [List.map_append]
        simp only [List.map_cons, List.map_nil]
        rw [hpa]
        exact qNd_app h4 f3
      · dsimp only
        have e1 : (lv + 1 - 1).toNat = (lv - 1).toNat + 1 := by omega
        rw [e1]
        exact Or.inr (by rw [f4]; exact h6)
      · dsimp only
        rw [qNs_app, ho]
        exact ⟨h7.1, h7.2.1, fun _ => by rw [hpa]; exact hdn⟩
      · dsimp only
        rw [qEo_app, if_pos (by omega), hpa]
        exact qIn_rf _ _
      · dsimp only
        rw [qEo_app, if_pos (by omega), hpa]
        exact hdn
      · dsimp only
        have ht := qTc_last ps fs (100 + nm) op ho
        rw [if_pos (by omega)] at ht
        rw [hl, List.length_append, qLast_app]
        simp only [List.length_cons, List.length_nil]
        refine ⟨⟨by omega, by omega⟩, by omega, by omega, by omega, trivial⟩
    · omega
    · omega
theorem qRJ_le (hi : i < 80) (h : qRJ i (ps, fs, ns, st, lv, op, nm)) (hs : st = 1 ∨ st = 2) (ht : (qLet (ps, fs, ns, st, lv, op, nm) c).1 = true) : qRJ (i + 1) (qLet (ps, fs, ns, st, lv, op, nm) c).2 := by
  obtain ⟨h1, h2, h3, h4, h5, h6, h7, h8, h9⟩ := h
  dsimp only [qLet] at *
  by_cases hc : c < 97 ∨ 122 < c
  · rw [if_pos hc] at ht
    cases ht
  · rw [if_neg hc] at ht ⊢
    dsimp only at ht ⊢
    rw [Bool.and_eq_true, Bool.not_eq_true', Bool.not_eq_true'] at ht
    have hni := qNot_in ht.1 ht.2
    obtain ⟨a1, a2, a3, a4⟩ := qAd_spec ps c op
    have hwq := qAd_wq (l := c) (u := op) h1.1 (by omega) h5
    have hle := qGd_ou a2 a4
    have hal := a1.length_le
    have hfl : ∀ f ∈ fs, qPa f < ps.length := fun f hf => (h2 f hf).2.2.1
    have hEr : qEo ps fs (-9) < ps.length := by
      have : ∀ (fs : List Int) (u : Int), (∀ f ∈ fs, qPa f < ps.length) → u < ps.length → qEo ps fs u < ps.length := by
        intro fs
        induction fs with
        | nil => intro u _ hu; exact hu
        | cons x t ih =>
          intro u hf hu
          simp only [qEo]
          refine ih _ (fun g hg => hf g (List.mem_cons_of_mem _ hg)) ?_
          split
          · exact hf x List.mem_cons_self
          · exact (qOu_rn h1.1 _).2.2
      exact this fs (-9) hfl (by omega)
    have hopl : op < ps.length := by omega
    have hk : (1 ≤ lv ∧ lv ≤ 4) ∧ 4 * (fs.length : Int) + 2 ≤ i + lv ∧ ps.length ≤ 60 + fs.length ∧ 2 + qCm fs op + (qTc ps fs 91 : Nat) + qLv fs - lv ≤ i := by
      have hcm := qCm_01 fs op
      rcases h9 with h9 | h9 | h9 | h9 | h9 | h9 | h9
      · omega
      · obtain ⟨a, b, c, d, e, f⟩ := h9
        have e0 : qCm fs op = 0 := by unfold qCm; rw [if_pos f]
        exact ⟨b, by omega, by omega, by omega⟩
      · obtain ⟨a, b, c, d, e⟩ := h9; exact ⟨b, by omega, by omega, by omega⟩
      all_goals omega
    obtain ⟨k1, k2, k3, k4⟩ := hk
    refine ⟨⟨hwq, qAd_nd h1.2⟩, fun f hf => ?_, h3, h4, by dsimp only; omega, qDp_pre a1 h1.1 _ _ hopl h6, ⟨qNs_pre a1 h1.1 _ _ hfl (by omega) h7.1, ?_, ?_⟩, by dsimp only; omega, Or.inr (Or.inr (Or.inr (Or.inl ⟨rfl, k1, ?_⟩)))⟩
    · have := h2 f hf
      dsimp only
      omega
    · dsimp only
      rw [qEo_pre a1 _ _ hfl]
      exact qIn_pre a1 h1.1 3 _ _ hEr h7.2.1
    · dsimp only
      rw [qEo_pre a1 _ _ hfl]
      exact qDp_pre a1 h1.1 3 _ hEr h7.2.2
    · dsimp only
      rw [qTc_pre a1 _ _ hfl]
      exact ⟨by omega, by omega, by omega, by omega, by omega, hni, hle.1⟩
theorem qRJ_co (h : qRJ i (ps, fs, ns, st, lv, op, nm)) (hs : st = 3) : qRJ (i + 1) (qCol (ps, fs, ns, st, lv, op, nm) c).2 := by
  obtain ⟨h1, h2, h3, h4, h5, h6, h7, h8, h9⟩ := h
  dsimp only [qCol] at *
  refine ⟨h1, h2, h3, h4, h5, h6, h7, h8, ?_⟩
  dsimp only
  rcases h9 with h9 | h9 | h9 | h9 | h9 | h9 | h9
  · omega
  · omega
  · omega
  · obtain ⟨a, b, c, d, e, f⟩ := h9
    exact Or.inr (Or.inr (Or.inr (Or.inr (Or.inl ⟨rfl, b, by omega, by omega, by omega, f⟩))))
  all_goals omega
theorem qRJ_d1 (hi : i < 80) (h : qRJ i (ps, fs, ns, st, lv, op, nm)) (hs : st = 4) (hd : qDig c = true) (ht : (qDg1 (ps, fs, ns, st, lv, op, nm) c).1 = true) : qRJ (i + 1) (qDg1 (ps, fs, ns, st, lv, op, nm) c).2 := by
  obtain ⟨h1, h2, h3, h4, h5, h6, h7, h8, h9⟩ := h
  have hd := of_decide_eq_true hd
  dsimp only [qDg1] at *
  by_cases hc : 10 ≤ ns.length
  · rw [if_pos hc] at ht
    cases ht
  · rw [if_neg hc]
    rcases h9 with h9 | h9 | h9 | h9 | h9 | h9 | h9
    · omega
    · omega
    · omega
    · omega
    · obtain ⟨a, b, c, d, e, f1, f2, f3, f4⟩ := h9
      have hpa : qPa nm = nm := qPa_l (by omega)
      have ho : qOu ps (qPa nm) = op := by rw [hpa]; exact f4
      have hl : qLv (fs ++ [nm]) = qLv fs + 1 := by
        rw [qLv_app]
        simp only [qLv]
        rw [if_pos (by omega)]
        omega
      have hdo : qDp ps 3 op := qDp_mono _ 3 _ (by omega) h6
      dsimp only
      refine ⟨h1, ?_, ?_, ?_, h5, h6, ⟨?_, ?_, ?_⟩, h8, Or.inr (Or.inr (Or.inr (Or.inr (Or.inr (Or.inl ⟨Or.inl rfl, b, ?_⟩)))))⟩
      · intro f hf
        rcases List.mem_append.mp hf with hf | hf
        · exact h2 f hf
        · simp only [List.mem_singleton] at hf
          subst hf
          rw [hpa]
          exact ⟨f1, f1, f2, Or.inl (by omega)⟩
      · dsimp only
        rw [hl, List.length_append]
        simp only [List.length_cons, List.length_nil]
        refine ⟨by omega, by omega, fun v hv => ?_⟩
        rcases List.mem_append.mp hv with hv | hv
        · exact h3.2.2 v hv
        · simp only [List.mem_singleton] at hv
          omega
      · dsimp only
        rw [List.map_append]
        simp only [List.map_cons, List.map_nil]
        rw [hpa]
        exact qNd_app h4 f3
      · dsimp only
        rw [qNs_app, ho]
        exact ⟨h7.1, h7.2.1, fun hb => by omega⟩
      · dsimp only
        rw [qEo_app, if_neg (by omega), ho]
        exact qIn_rf _ _
      · dsimp only
        rw [qEo_app, if_neg (by omega), ho]
        exact hdo
      · dsimp only
        have ht := qTc_last ps fs nm op ho
        rw [if_neg (by omega)] at ht
        rw [hl, List.length_append]
        simp only [List.length_cons, List.length_nil]
        refine ⟨by omega, by omega, by omega⟩
    · omega
    · omega
theorem qRJ_56 (h : qRJ i (ps, fs, ns, st, lv, op, nm)) (hs : st = 5 ∨ st = 6) {ns' : List Int} (hn : ns'.length = ns.length) (hv : ∀ v ∈ ns', 0 ≤ v ∧ v ≤ 999) : qRJ (i + 1) (ps, fs, ns', st, lv, op, nm) ∧ qRJ (i + 1) (ps, fs, ns, 2, lv, op, nm) := by
  obtain ⟨h1, h2, h3, h4, h5, h6, h7, h8, h9⟩ := h
  dsimp only at *
  rcases h9 with h9 | h9 | h9 | h9 | h9 | h9 | h9
  · omega
  · omega
  · omega
  · omega
  · omega
  · obtain ⟨a, b, c, d, e⟩ := h9
    refine ⟨⟨h1, h2, ⟨by dsimp only; omega, by dsimp only; omega, hv⟩, h4, h5, h6, h7, h8, Or.inr (Or.inr (Or.inr (Or.inr (Or.inr (Or.inl ⟨a, b, ?_⟩)))))⟩, ⟨h1, h2, h3, h4, h5, h6, h7, h8, Or.inr (Or.inr (Or.inl ⟨rfl, b, ?_⟩))⟩⟩
    · dsimp only
      exact ⟨by omega, by omega, by omega⟩
    · dsimp only
      exact ⟨by omega, by omega, by omega⟩
  · omega
theorem qRJ_en (h : qRJ i (ps, fs, ns, st, lv, op, nm)) (hs : st = 5 ∨ st = 6) : qRJ (i + 1) (qEnd (ps, fs, ns, st, lv, op, nm) c).2 := by
  simp only [qEnd]
  split
  · exact qRJ_cl h (by omega)
  · exact (qRJ_56 h hs rfl (by obtain ⟨-, -, h3, -⟩ := h; exact h3.2.2)).2
theorem qRJ_d2 (h : qRJ i (ps, fs, ns, st, lv, op, nm)) (hs : st = 5) (hd : qDig c = true) (ht : (qDg2 (ps, fs, ns, st, lv, op, nm) c).1 = true) : qRJ (i + 1) (qDg2 (ps, fs, ns, st, lv, op, nm) c).2 := by
  have hd := of_decide_eq_true hd
  dsimp only [qDg2] at *
  by_cases hc : qAt ns (ns.length - 1) ≤ 0 ∨ 99 < qAt ns (ns.length - 1)
  · rw [if_pos hc] at ht
    cases ht
  · rw [if_neg hc]
    refine (qRJ_56 h (Or.inl hs) (List.length_set) (fun v hv => ?_)).1
    rcases List.mem_or_eq_of_mem_set hv with hv | hv
    · obtain ⟨-, -, h3, -⟩ := h
      exact h3.2.2 v hv
    · omega
theorem qRJ_step {s : qRd} (hi : i < 80) (h : qRJ i s) (ht : (qTk s c).1 = true) : qRJ (i + 1) (qTk s c).2 := by
  obtain ⟨ps, fs, ns, st, lv, op, nm⟩ := s
  unfold qTk at ht ⊢
  dsimp only at ht ⊢
  split
  · exact qRJ_sp h
  · rename_i g
    rw [if_neg g] at ht
    split
    · rename_i e
      rw [if_pos e] at ht
      exact qRJ_op0 h e ht
    · rename_i e0
      rw [if_neg e0] at ht
      split
      · rename_i e
        rw [if_pos e] at ht
        split
        · exact qRJ_cl h (Or.inl e)
        · rename_i g2
          rw [if_neg g2] at ht
          exact qRJ_le hi h (Or.inl e) ht
      · rename_i e1
        rw [if_neg e1] at ht
        split
        · rename_i e
          rw [if_pos e] at ht
          exact qRJ_le hi h (Or.inr e) ht
        · rename_i e2
          rw [if_neg e2] at ht
          split
          · rename_i e
            exact qRJ_co h e
          · rename_i e3
            rw [if_neg e3] at ht
            split
            · rename_i e
              rw [if_pos e] at ht
              split
              · rename_i g2
                rw [if_pos g2] at ht
                exact qRJ_d1 hi h e g2 ht
              · rename_i g2
                rw [if_neg g2] at ht
                exact qRJ_op4 h e ht
            · rename_i e4
              rw [if_neg e4] at ht
              split
              · rename_i e
                rw [if_pos e] at ht
                split
                · rename_i g2
                  rw [if_pos g2] at ht
                  exact qRJ_d2 h e g2 ht
                · exact qRJ_en h (Or.inl e)
              · rename_i e5
                rw [if_neg e5] at ht
                split
                · rename_i e
                  exact qRJ_en h (Or.inr e)
                · rename_i e6
                  rw [if_neg e6] at ht
                  cases ht
theorem qRJ_0 (hw : qWp ps) (hn : ps.Nodup) : qRJ 0 (ps, [], [], 0, 0, -9, -9) := by
  refine ⟨⟨hw.2, hn⟩, fun f hf => by simp at hf, ⟨by simp [qLv], by simp, fun v hv => by simp at hv⟩, by simp, Or.inl rfl, rfl, ⟨trivial, qIn_rf _ _, qDp_9 _⟩, ⟨(by decide : (-9 : Int) ≤ -9), (by decide : (-9 : Int) ≤ 1000)⟩, Or.inl ⟨rfl, rfl, rfl, rfl, hw.1⟩⟩
/-- a whole text that was taken -/
theorem qGo_J {tx : List Int} (h80 : tx.length ≤ 80) : ∀ (k i : Nat) (s : qRd), i + k = tx.length → qRJ i s → (qGo (tx.drop i) s i).1 = tx.length → qRJ tx.length (qGo (tx.drop i) s i).2 := by
  intro k
  induction k with
  | zero =>
    intro i s hik h hg
    rw [qdrop_nil (by omega)]
    have e : i = tx.length := by omega
    subst e
    exact h
  | succ k ih =>
    intro i s hik h hg
    rw [qdrop (by omega)] at hg ⊢
    simp only [qGo] at hg ⊢
    split
    · rename_i ht
      rw [if_pos ht] at hg
      exact ih (i + 1) _ (by omega) (qRJ_step (by omega) h ht) hg
    · rename_i ht
      rw [if_neg ht] at hg
      dsimp only at hg
      omega
end step

