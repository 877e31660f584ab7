/-! The abstract state (paths, shapes, bound, records), what is well formed, the class against it -/
abbrev qAS : Type := List (Int × Int) × List (List Int) × Int × List (Int × List Int)
abbrev qWd : Type := qAS × List qAS × List Int
def qRs (a : qAS) : List Int := a.2.2.2.map Prod.fst
def qVv (a : qAS) (i lf : Int) : Int := (a.2.2.2.getD i.toNat (-9, [])).2.getD lf.toNat 0
def qFr' (a : qAS) (i : Int) : List Int := qGf a.2.1 (qAt (qRs a) i)
def qWp (ps : List (Int × Int)) : Prop := ps.length ≤ 60 ∧ ∀ (i : Nat) (h : i < ps.length), 97 ≤ ps[i].1 ∧ ps[i].1 ≤ 122 ∧ ps[i].2 < i ∧ (ps[i].2 = -9 ∨ 0 ≤ ps[i].2)
def qDp (ps : List (Int × Int)) : Nat → Int → Prop
  | 0, u => u = -9
  | n + 1, u => u = -9 ∨ qDp ps n (qOu ps u)
def qIn (ps : List (Int × Int)) : Nat → Int → Int → Prop
  | 0, u, x => u = x
  | n + 1, u, x => u = x ∨ (u ≠ -9 ∧ qIn ps n (qOu ps u) x)
def qNs (ps : List (Int × Int)) : List Int → Int → Prop
  | [], _ => True
  | f :: t, u => qIn ps 3 u (qOu ps (qPa f)) ∧ (100 ≤ f → qDp ps 3 (qPa f)) ∧ qNs ps t (if 100 ≤ f then qPa f else qOu ps (qPa f))
/-- what the fields of a text take, without numbers; v: the field before (91: none) -/
def qTc (ps : List (Int × Int)) : List Int → Int → Nat
  | [], _ => 0
  | f :: t, v => (if v = 100 + qOu ps (qPa f) then 2 else 3) + (if 100 ≤ f then 2 else 0) + qTc ps t f
def qWs (ps : List (Int × Int)) (fs : List Int) : Prop := fs.length ≤ 20 ∧ qLv fs ≤ 10 ∧ (∀ f ∈ fs, 0 ≤ f ∧ 0 ≤ qPa f ∧ qPa f < ps.length) ∧ qNs ps fs (-9) ∧ (2 + qTc ps fs 91 : Nat) + qLv fs ≤ 80
def qWr (ss : List (List Int)) (rc : Int × List Int) : Prop := rc.2.length ≤ 10 ∧ (rc.1 = -9 ∨ (0 ≤ rc.1 ∧ rc.1 < ss.length ∧ (rc.2.length : Int) = qLv (qGf ss rc.1) ∧ ∀ v ∈ rc.2, 0 ≤ v ∧ v ≤ 999))
def qWA (a : qAS) : Prop := qWp a.1 ∧ a.2.1.length ≤ 40 ∧ (∀ fs ∈ a.2.1, qWs a.1 fs) ∧ (1 ≤ a.2.2.1 ∧ a.2.2.1 ≤ 10) ∧ a.2.2.2.length ≤ 30 ∧ ∀ rc ∈ a.2.2.2, qWr a.2.1 rc
theorem qRs_len (a : qAS) : (qRs a).length = a.2.2.2.length := by simp [qRs]
theorem qRs_at (a : qAS) {i : Nat} (h : i < a.2.2.2.length) : qAt (qRs a) i = a.2.2.2[i].1 := by
  rw [qAt_lt (by rw [qRs_len]; exact h)]
  simp [qRs]
theorem qVv_at (a : qAS) {i j : Nat} (h : i < a.2.2.2.length) : qVv a i j = a.2.2.2[i].2.getD j 0 := by
  unfold qVv
  rw [Int.toNat_natCast, Int.toNat_natCast, List.getD_eq_getElem?_getD (l := a.2.2.2), List.getElem?_eq_getElem h]
  rfl
/-- a record that is there -/
theorem qHas_lt {a : qAS} {i : Int} (h : qAt (qRs a) i ≠ -9) : 0 ≤ i ∧ i < a.2.2.2.length := by
  unfold qAt at h
  rw [qRs_len] at h
  split at h
  · assumption
  · exact absurd rfl h
theorem qGf_mem {ss : List (List Int)} {s : Int} (h : 0 ≤ s ∧ s < ss.length) : qGf ss s ∈ ss := by
  unfold qGf
  rw [if_pos h, List.getD_eq_getElem?_getD, List.getElem?_eq_getElem (by omega)]
  exact List.getElem_mem _
theorem qGf_out {ss : List (List Int)} {s : Int} (h : ¬ (0 ≤ s ∧ s < ss.length)) : qGf ss s = [] := by
  unfold qGf
  rw [if_neg h]
/-- the fields of any shape number are well formed -/
theorem qWs_nil (ps : List (Int × Int)) : qWs ps [] := ⟨by simp, by simp [qLv], fun f h => by simp at h, trivial, by simp [qTc, qLv]⟩
theorem qWs_gf {a : qAS} (h : qWA a) (s : Int) : qWs a.1 (qGf a.2.1 s) := by
  by_cases hs : 0 ≤ s ∧ s < a.2.1.length
  · exact h.2.2.1 _ (qGf_mem hs)
  · rw [qGf_out hs]
    exact qWs_nil _
theorem qWA_rs {a : qAS} (h : qWA a) (i : Int) : qAt (qRs a) i = -9 ∨ (0 ≤ qAt (qRs a) i ∧ qAt (qRs a) i < a.2.1.length) := by
  by_cases h9 : qAt (qRs a) i = -9
  · exact Or.inl h9
  · obtain ⟨h0, h1⟩ := qHas_lt h9
    have h2 := h.2.2.2.2.2 a.2.2.2[i.toNat] (List.getElem_mem _)
    have h3 := qRs_at a (i := i.toNat) (by omega)
    rw [Int.toNat_of_nonneg h0] at h3
    rw [h3] at h9 ⊢
    rcases h2.2 with h4 | h4
    · exact absurd h4 h9
    · exact Or.inr ⟨h4.1, h4.2.1⟩
theorem qWA_val {a : qAS} (h : qWA a) {i : Nat} (hi : i < a.2.2.2.length) (h9 : qAt (qRs a) i ≠ -9) : (a.2.2.2[i].2.length : Int) = qLv (qFr' a i) ∧ ∀ j : Nat, (j : Int) < qLv (qFr' a i) → 0 ≤ qVv a i j ∧ qVv a i j ≤ 999 := by
  have h2 := h.2.2.2.2.2 a.2.2.2[i] (List.getElem_mem _)
  unfold qFr'
  rw [qRs_at a hi] at h9 ⊢
  rcases h2.2 with h4 | h4
  · exact absurd h4 h9
  · refine ⟨h4.2.2.1, fun j hj => ?_⟩
    rw [qVv_at a hi]
    have hj2 : j < a.2.2.2[i].2.length := by have := h4.2.2.1; omega
    rw [List.getD_eq_getElem?_getD, List.getElem?_eq_getElem hj2]
    exact h4.2.2.2 _ (List.getElem_mem _)
/-- the class holds the state a; vs: the row of values -/
def qNw (m : Nat → Int → Int) (a : qAS) (vs : List Int) : Prop := qSc m 144 (qRs a) vs a.1.length a.2.1.length a.2.2.1 ∧ qSh m a.2.1 ∧ ∀ (i : Nat) (h : i < a.2.2.2.length), qVr vs i a.2.2.2[i].2
theorem qNw_val {m : Nat → Int → Int} {a : qAS} {vs : List Int} (h : qNw m a vs) {i j : Nat} (hi : i < a.2.2.2.length) (hj : j < a.2.2.2[i].2.length) : qAt vs (i * 10 + j) = qVv a i j := by
  have h1 := h.2.2 i hi j hj
  rw [qVv_at a hi, ← h1]
  congr 1
  omega
theorem qNw_V {m : Nat → Int → Int} {a : qAS} {vs : List Int} (h : qNw m a vs) (hw : qWA a) : qVal (qRs a) vs a.2.1 := by
  intro i hi
  rw [qRs_len] at hi
  refine ⟨qWA_rs hw i, fun j hj => ?_⟩
  by_cases h9 : qAt (qRs a) i = -9
  · rw [h9, qGf_out (by omega)] at hj
    simp [qLv] at hj
    omega
  · obtain ⟨e1, e2⟩ := qWA_val hw hi h9
    have hj' : (j : Int) < qLv (qFr' a i) := hj
    have hl : a.2.2.2[i].2.length ≤ 10 := (hw.2.2.2.2.2 _ (List.getElem_mem _)).1
    rw [qNw_val h hi (by omega)]
    exact ⟨by omega, e2 j hj'⟩
theorem qSm_congr {g g' : Nat → Int} : ∀ (k i : Nat), (∀ j, i ≤ j → j < i + k → g j = g' j) → qSm k i g = qSm k i g' := by
  intro k
  induction k with
  | zero => intro i _; rfl
  | succ k ih =>
    intro i h
    simp only [qSm]
    rw [h i (Nat.le_refl _) (by omega), ih (i + 1) (fun j h1 h2 => h j (by omega) (by omega))]
/-- prefixes: what is said of known paths stays -/
theorem qOu_pre {ps P : List (Int × Int)} (h : ps <+: P) {p : Int} (hp : p < ps.length) : qOu P p = qOu ps p := by
  obtain ⟨X, rfl⟩ := h
  unfold qOu qAt
  rw [List.map_append, List.length_append, List.length_map]
  by_cases h0 : 0 ≤ p
  · rw [if_pos ⟨h0, by omega⟩, if_pos ⟨h0, by omega⟩]
    simp only [List.getD_eq_getElem?_getD]
    rw [List.getElem?_append_left (by rw [List.length_map]; omega)]
  · rw [if_neg (by omega), if_neg (by omega)]
theorem qLe_pre {ps P : List (Int × Int)} (h : ps <+: P) {p : Int} (hp : p < ps.length) : qLe P p = qLe ps p := by
  obtain ⟨X, rfl⟩ := h
  unfold qLe qAt
  rw [List.map_append, List.length_append, List.length_map]
  by_cases h0 : 0 ≤ p
  · rw [if_pos ⟨h0, by omega⟩, if_pos ⟨h0, by omega⟩]
    simp only [List.getD_eq_getElem?_getD]
    rw [List.getElem?_append_left (by rw [List.length_map]; omega)]
  · rw [if_neg (by omega), if_neg (by omega)]
theorem qOu_rng {ps : List (Int × Int)} (h : qWp ps) (p : Int) : (qOu ps p = -9 ∨ 0 ≤ qOu ps p) ∧ (0 ≤ p → qOu ps p < p) ∧ qOu ps p < ps.length := by
  by_cases hp : 0 ≤ p ∧ p < ps.length
  · have h1 := h.2 p.toNat (by omega)
    have h2 := qOu_at (ps := ps) (i := p.toNat) (by omega)
    rw [Int.toNat_of_nonneg hp.1] at h2
    have h3 : qOu ps p = ps[p.toNat].2 := h2
    rw [h3]
    exact ⟨h1.2.2.2, fun _ => by omega, by omega⟩
  · have h3 : qOu ps p = -9 := by
      unfold qOu qAt
      rw [List.length_map, if_neg hp]
    rw [h3]
    exact ⟨Or.inl rfl, fun _ => by omega, by omega⟩
theorem qClo_pre {ps P : List (Int × Int)} (h : ps <+: P) (hw : qWp ps) : ∀ (k : Nat) (p u : Int), p < ps.length → qClo P k p u = qClo ps k p u ∧ (qClo ps k p u).2 < ps.length := by
  intro k
  induction k with
  | zero => intro p u hp; exact ⟨rfl, hp⟩
  | succ k ih =>
    intro p u hp
    simp only [qClo]
    have h1 := ih (qOu ps p) u (qOu_rng hw p).2.2
    rw [qOu_pre h hp, h1.1]
    split
    · exact ⟨rfl, hp⟩
    · exact ⟨rfl, h1.2⟩
theorem qTxt_pre {ps P : List (Int × Int)} (h : ps <+: P) (hw : qWp ps) (nv : Int → List Int) : ∀ (fs : List Int) (u lf : Int) (l : List Int), (∀ f ∈ fs, qPa f < ps.length) → u < ps.length → qTxt P nv fs u lf l = qTxt ps nv fs u lf l := by
  intro fs
  induction fs with
  | nil => intro u lf l _ hu; simp only [qTxt]; rw [(qClo_pre h hw 3 u (-9) hu).1]
  | cons f t ih =>
    intro u lf l hf hu
    have hf0 := hf f List.mem_cons_self
    have h1 := qClo_pre h hw 3 u (qOu ps (qPa f)) hu
    have hN : ∀ l', qNam P (qPa f) l' = qNam ps (qPa f) l' := fun l' => by
      unfold qNam
      rw [qLe_pre h hf0]
    simp only [qTxt]
    rw [qOu_pre h hf0, h1.1, hN]
    split
    · exact ih _ _ _ (fun g hg => hf g (List.mem_cons_of_mem _ hg)) hf0
    · exact ih _ _ _ (fun g hg => hf g (List.mem_cons_of_mem _ hg)) h1.2
theorem qTxt_nv {ps : List (Int × Int)} {nv nv' : Int → List Int} : ∀ (fs : List Int) (u lf : Int) (l : List Int), (∀ j : Int, lf ≤ j → j < lf + qLv fs → nv j = nv' j) → qTxt ps nv fs u lf l = qTxt ps nv' fs u lf l := by
  intro fs
  induction fs with
  | nil => intro u lf l _; rfl
  | cons f t ih =>
    intro u lf l h
    have h0 := qLv_le t
    simp only [qTxt]
    simp only [qLv] at h
    split
    · rename_i h1
      rw [if_neg (by omega)] at h
      exact ih _ _ _ (fun j g1 g2 => h j g1 (by omega))
    · rename_i h1
      rw [if_pos (by omega)] at h
      rw [h lf (Int.le_refl _) (by omega)]
      exact ih _ _ _ (fun j g1 g2 => h j (by omega) (by omega))
theorem qWi_pre {ps P : List (Int × Int)} (h : ps <+: P) (hw : qWp ps) (q : Int) : ∀ (k : Nat) (p : Int), p < ps.length → qWi P k p q = qWi ps k p q := by
  intro k
  induction k with
  | zero => intro p _; rfl
  | succ k ih =>
    intro p hp
    simp only [qWi]
    rw [qOu_pre h hp, ih _ (qOu_rng hw p).2.2]
/-- how long a text is -/
theorem qClo_len {ps : List (Int × Int)} : ∀ (n : Nat) (u x : Int), qIn ps n u x → (qClo ps n u x).2 = x := by
  intro n
  induction n with
  | zero => intro u x h; exact h
  | succ n ih =>
    intro u x h
    simp only [qClo]
    split
    · assumption
    · rename_i h1
      rcases h with h | h
      · exact absurd h h1
      · exact ih _ _ h.2
def qNvl (nv : Int → List Int) : List Int → Int → Nat
  | [], _ => 0
  | f :: t, lf => if 100 ≤ f then qNvl nv t lf else (nv lf).length + qNvl nv t (lf + 1)
/-- how deep a path is, as far as n levels -/
def qDe (ps : List (Int × Int)) : Nat → Int → Nat
  | 0, _ => 0
  | n + 1, u => if u = -9 then 0 else 1 + qDe ps n (qOu ps u)
theorem qDe_up {ps : List (Int × Int)} : ∀ (n : Nat) (u : Int), qDp ps n u → qDe ps (n + 1) u = qDe ps n u := by
  intro n
  induction n with
  | zero => intro u h; have : u = -9 := h; simp [qDe, this]
  | succ n ih =>
    intro u h
    simp only [qDe]
    split
    · rfl
    · rename_i h1
      rcases h with h | h
      · exact absurd h h1
      · have := ih _ h
        simp only [qDe] at this
        rw [this]
theorem qDp_in {ps : List (Int × Int)} (h9 : qOu ps (-9) = -9) : ∀ (n k : Nat) (u x : Int), qDp ps n u → qIn ps k u x → qDp ps n x := by
  intro n k
  induction k generalizing n with
  | zero => intro u x h1 h2; have : u = x := h2; subst this; exact h1
  | succ k ih =>
    intro u x h1 h2
    rcases h2 with rfl | ⟨h2, h3⟩
    · exact h1
    · refine ih n _ _ ?_ h3
      cases n with
      | zero => have : u = -9 := h1; exact absurd this h2
      | succ n =>
        rcases h1 with h1 | h1
        · exact absurd h1 h2
        · have up : ∀ (n : Nat) (y : Int), qDp ps n y → qDp ps (n + 1) y := by
            intro n
            induction n with
            | zero => intro y hy; exact Or.inl hy
            | succ n ih2 =>
              intro y hy
              rcases hy with hy | hy
              · exact Or.inl hy
              · exact Or.inr (ih2 _ hy)
          exact up n _ h1
/-- closing from u up to x: as many signs as levels between them -/
theorem qClo_de {ps : List (Int × Int)} (h9 : qOu ps (-9) = -9) : ∀ (k n : Nat) (u x : Int), k ≤ n → qDp ps n u → qIn ps k u x → (qClo ps k u x).1.length + qDe ps n x = qDe ps n u := by
  intro k
  induction k with
  | zero => intro n u x _ _ h; have : u = x := h; subst this; simp [qClo]
  | succ k ih =>
    intro n u x hk hd h
    simp only [qClo]
    split
    · rename_i h1
      subst h1
      simp
    · rename_i h1
      rcases h with h | ⟨h2, h3⟩
      · exact absurd h h1
      · obtain ⟨n, rfl⟩ : ∃ j, n = j + 1 := ⟨n - 1, by omega⟩
        rcases hd with hd | hd
        · exact absurd hd h2
        · have h4 := ih n (qOu ps u) x (by omega) hd h3
          have h5 := qDe_up n x (qDp_in h9 n k _ _ hd h3)
          rw [h5]
          simp only [List.length_cons]
          have h6 : qDe ps (n + 1) u = 1 + qDe ps n (qOu ps u) := by
            simp only [qDe]
            rw [if_neg h2]
          omega
theorem qAt_last {l : List Int} {x : Int} : qAt (l ++ [x]) ((l ++ [x]).length - 1) = x := by
  have h : ((l ++ [x]).length : Int) - 1 = (l.length : Nat) := by simp
  rw [h, qAt_lt (by simp)]
  simp
theorem qAt_last2 {l k : List Int} (h : k ≠ []) : qAt (l ++ k) ((l ++ k).length - 1) = qAt k (k.length - 1) := by
  obtain ⟨k', x, rfl⟩ : ∃ k' x, k = k' ++ [x] := ⟨k.dropLast, k.getLast h, (List.dropLast_concat_getLast h).symm⟩
  rw [← List.append_assoc, qAt_last, qAt_last]
theorem qIn9 {ps : List (Int × Int)} : ∀ (n : Nat) (u : Int), qDp ps n u → qIn ps n u (-9) := by
  intro n
  induction n with
  | zero => intro u h; exact h
  | succ n ih =>
    intro u h
    rcases h with h | h
    · exact Or.inl h
    · by_cases h9 : u = -9
      · exact Or.inl h9
      · exact Or.inr ⟨h9, ih _ h⟩
theorem qClo_last {ps : List (Int × Int)} : ∀ (k : Nat) (u x : Int), (qClo ps k u x).1 ≠ [] → qAt (qClo ps k u x).1 ((qClo ps k u x).1.length - 1) = 125 := by
  intro k
  induction k with
  | zero => intro u x h; exact absurd rfl h
  | succ k ih =>
    intro u x h
    simp only [qClo] at h ⊢
    split
    · rename_i h1
      rw [if_pos h1] at h
      exact absurd rfl h
    · by_cases hc : (qClo ps k (qOu ps u) x).1 = []
      · simp only [hc]
        decide
      · have h2 := qAt_last2 (l := [125]) hc
        rw [List.singleton_append] at h2
        rw [h2]
        exact ih _ _ hc
theorem qTxt_len {ps : List (Int × Int)} (h9 : qOu ps (-9) = -9) (ho : ∀ p, -9 ≤ qOu ps p) {nv : Int → List Int} (hnv : ∀ j, ∀ c ∈ nv j, c ≠ 123) : ∀ (fs : List Int) (u lf v : Int) (l : List Int), qNs ps fs u → (∀ f ∈ fs, f < 91 ∨ 100 ≤ f) → qDp ps 3 u → (v = 100 + u ∧ qAt l (l.length - 1) = 123) ∨ (v < 91 ∧ qAt l (l.length - 1) ≠ 123) →
    (qTxt ps nv fs u lf l).length = l.length + qTc ps fs v + qNvl nv fs lf + qDe ps 3 u + 1 := by
  intro fs
  induction fs with
  | nil =>
    intro u lf v l _ _ hd _
    have h1 := qClo_de h9 3 3 u (-9) (Nat.le_refl _) hd (qIn9 3 u hd)
    have h2 : qDe ps 3 (-9) = 0 := by simp [qDe]
    simp only [qTxt, qTc, qNvl, List.length_append, List.length_cons, List.length_nil]
    omega
  | cons f t ih =>
    intro u lf v l hn hf hd hv
    obtain ⟨n1, n2, n3⟩ := hn
    have hf0 := hf f List.mem_cons_self
    have hf1 : ∀ g ∈ t, g < 91 ∨ 100 ≤ g := fun g hg => hf g (List.mem_cons_of_mem _ hg)
    have ho1 := ho (qPa f)
    have c1 := qClo_de h9 3 3 u _ (Nat.le_refl _) hd n1
    have c2 := qClo_len 3 u _ n1
    have hdo := qDp_in h9 3 3 u _ hd n1
    -- the comma
    have hcm : (qNam ps (qPa f) (l ++ (qClo ps 3 u (qOu ps (qPa f))).1)).length = l.length + (qClo ps 3 u (qOu ps (qPa f))).1.length + (if v = 100 + qOu ps (qPa f) then 2 else 3) := by
      unfold qNam
      by_cases hc : (qClo ps 3 u (qOu ps (qPa f))).1 = []
      · have hu : u = qOu ps (qPa f) := by
          simp only [qClo] at hc
          split at hc
          · assumption
          · simp at hc
        rw [hc, List.append_nil]
        rcases hv with ⟨g1, g2⟩ | ⟨g1, g2⟩
        · rw [if_pos g2, if_pos (by omega)]
          simp
        · rw [if_neg g2, if_neg (by omega)]
          simp
      · have hl : qAt (l ++ (qClo ps 3 u (qOu ps (qPa f))).1) ((l ++ (qClo ps 3 u (qOu ps (qPa f))).1).length - 1) = 125 := by
          rw [qAt_last2 hc]
          exact qClo_last _ _ _ hc
        have hu : u ≠ qOu ps (qPa f) := fun e => hc (by simp only [qClo]; rw [if_pos e])
        rw [if_neg (by rw [hl]; decide), if_neg (by omega)]
        simp only [List.length_append, List.length_cons, List.length_nil]
    simp only [qTxt, qTc, qNvl]
    by_cases hb : 100 ≤ f
    · rw [if_pos hb, if_pos hb, if_pos hb]
      rw [if_pos hb] at n3
      have hpf : qPa f = f - 100 := by unfold qPa; rw [if_pos hb]
      have h1 := ih (qPa f) lf f _ n3 hf1 (n2 hb) (Or.inl ⟨by omega, qAt_last (l := qNam ps (qPa f) (l ++ (qClo ps 3 u (qOu ps (qPa f))).1)) (x := 123)⟩)
      have e1 : (qNam ps (qPa f) (l ++ (qClo ps 3 u (qOu ps (qPa f))).1) ++ [123]).length = (qNam ps (qPa f) (l ++ (qClo ps 3 u (qOu ps (qPa f))).1)).length + 1 := by simp
      rw [h1, e1, hcm]
      have h2 : qDe ps 3 (qPa f) = 1 + qDe ps 3 (qOu ps (qPa f)) := by
        have h3 : qDe ps 3 (qPa f) = 1 + qDe ps 2 (qOu ps (qPa f)) := by
          simp only [qDe]
          rw [if_neg (by omega)]
        have h4 : qDp ps 2 (qOu ps (qPa f)) := by
          rcases n2 hb with h | h
          · omega
          · exact h
        have h5 : qDe ps 3 (qOu ps (qPa f)) = qDe ps 2 (qOu ps (qPa f)) := qDe_up 2 _ h4
        omega
      omega
    · rw [if_neg hb, if_neg hb, if_neg hb, c2]
      rw [if_neg hb] at n3
      have hlast : qAt (qNam ps (qPa f) (l ++ (qClo ps 3 u (qOu ps (qPa f))).1) ++ nv lf) ((qNam ps (qPa f) (l ++ (qClo ps 3 u (qOu ps (qPa f))).1) ++ nv lf).length - 1) ≠ 123 := by
        by_cases hne : nv lf = []
        · rw [hne, List.append_nil]
          unfold qNam
          rw [show ∀ (a b : List Int) (x y : Int), a ++ (b ++ [x, y]) = (a ++ (b ++ [x])) ++ [y] from fun a b x y => by simp, qAt_last]
          decide
        · rw [qAt_last2 hne]
          have hpos : 0 < (nv lf).length := List.length_pos_iff.mpr hne
          have h3 : ((nv lf).length : Int) - 1 = ((nv lf).length - 1 : Nat) := by omega
          rw [h3, qAt_lt (by omega)]
          exact hnv lf _ (List.getElem_mem _)
      have h1 := ih (qOu ps (qPa f)) (lf + 1) f _ n3 hf1 hdo (Or.inr ⟨by omega, hlast⟩)
      rw [h1, List.length_append, hcm]
      omega
theorem qNum_ne {v : Int} (h : 0 ≤ v ∧ v ≤ 999) : ∀ c ∈ qNum v, c ≠ 123 := by
  intro c hc
  unfold qNum at hc
  have h1 : v / 10 % 10 < 10 := Int.emod_lt_of_pos _ (by decide)
  have h2 : v % 10 < 10 := Int.emod_lt_of_pos _ (by decide)
  have h3 : 0 ≤ v / 10 % 10 := Int.emod_nonneg _ (by decide)
  have h4 : 0 ≤ v % 10 := Int.emod_nonneg _ (by decide)
  intro e
  subst e
  simp only [List.mem_append] at hc
  rcases hc with hc | hc | hc
  · split at hc
    · simp at hc
      omega
    · simp at hc
  · split at hc
    · simp at hc
      omega
    · simp at hc
  · simp at hc
    omega
theorem qNum_len (v : Int) : (qNum v).length ≤ 3 := by
  unfold qNum
  split <;> split <;> simp
theorem qNvl_le {nv : Int → List Int} (h : ∀ j, (nv j).length ≤ 3) : ∀ (fs : List Int) (lf : Int), (qNvl nv fs lf : Int) ≤ 3 * qLv fs := by
  intro fs
  induction fs with
  | nil => intro lf; simp [qNvl, qLv]
  | cons f t ih =>
    intro lf
    simp only [qNvl, qLv]
    split
    · rw [if_neg (by omega)]
      have := ih lf
      omega
    · rw [if_pos (by omega)]
      have := ih (lf + 1)
      have := h lf
      omega
theorem qPa_neg {ps : List (Int × Int)} : qOu ps (-9) = -9 := by
  unfold qOu
  exact qAt_neg (by decide)
/-- the text of a well formed shape: its length, and that it fits the line -/
theorem qText_len {ps : List (Int × Int)} (hp : qWp ps) {fs : List Int} (hw : qWs ps fs) {nv : Int → List Int} (hnv : ∀ j, ∀ c ∈ nv j, c ≠ 123) : (qText ps nv fs).length = 2 + qTc ps fs 91 + qNvl nv fs 0 := by
  unfold qText
  have hb : ∀ f ∈ fs, f < 91 ∨ 100 ≤ f := fun f hf => by
    have h1 := hw.2.2.1 f hf
    have h2 := hp.1
    unfold qPa at h1
    split at h1
    · exact Or.inr (by omega)
    · exact Or.inl (by omega)
  have h := qTxt_len (qPa_neg (ps := ps)) (fun p => by rcases (qOu_rng hp p).1 with h | h <;> omega) hnv fs (-9) 0 91 [123] hw.2.2.2.1 hb (Or.inl rfl) (Or.inl ⟨by decide, by decide⟩)
  rw [h]
  have h2 : qDe ps 3 (-9) = 0 := by simp [qDe]
  simp only [List.length_cons, List.length_nil]
  omega
theorem qText_fit {ps : List (Int × Int)} (hp : qWp ps) {fs : List Int} (hw : qWs ps fs) {nv : Int → List Int} (hnv : ∀ j, 0 ≤ j → j < qLv fs → (∀ c ∈ nv j, c ≠ 123) ∧ (nv j).length ≤ 3) : (qText ps nv fs).length ≤ 100 := by
  have e : qText ps nv fs = qText ps (fun j => if 0 ≤ j ∧ j < qLv fs then nv j else []) fs := by
    unfold qText
    refine qTxt_nv fs _ _ _ (fun j h1 h2 => ?_)
    rw [if_pos ⟨h1, by omega⟩]
  rw [e]
  have h1 := qText_len hp hw (nv := fun j => if 0 ≤ j ∧ j < qLv fs then nv j else []) (fun j c hc => by
    split at hc
    · rename_i h
      exact (hnv j h.1 h.2).1 c hc
    · simp at hc)
  have h2 := qNvl_le (nv := fun j => if 0 ≤ j ∧ j < qLv fs then nv j else []) (fun j => by
    split
    · rename_i h
      exact (hnv j h.1 h.2).2
    · simp) fs 0
  have h4 := hw.2.1
  have h5 := hw.2.2.2.2
  omega

