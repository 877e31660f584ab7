/-! Paths and State -/
variable {T : List (Nat × Nat)} {m : Nat → Int → Int} {r : Nat → Int → Option Nat}
def qPths (T : List (Nat × Nat)) (r : Nat → Int → Option Nat) (z : Nat) : Prop := T[z]? = some (0, 2) ∧ r z 0 = some (z + 1) ∧ r z 1 = some (z + 3) ∧ qRow T r (z + 1) 86 ∧ qRow T r (z + 3) 86
def qPh (m : Nat → Int → Int) (z : Nat) (ps : List (Int × Int)) : Prop := qRw m (z + 1) (ps.map Prod.fst) ∧ qRw m (z + 3) (ps.map Prod.snd) ∧ ps.length ≤ 86
theorem qPh_fr {P : Nat → Prop} {m m' : Nat → Int → Int} {z : Nat} {l : List (Int × Int)} (h : qPh m z l) (f : qFr P m m') (h0 : ∀ a, z < a → a < z + 5 → ¬ P a) : qPh m' z l :=
  ⟨qRw_fr h.1 f (h0 _ (by omega) (by omega)) (h0 _ (by omega) (by omega)), qRw_fr h.2.1 f (h0 _ (by omega) (by omega)) (h0 _ (by omega) (by omega)), h.2.2⟩
/-- the outer path of a path -/
def qOu (ps : List (Int × Int)) (p : Int) : Int := qAt (ps.map Prod.snd) p
def qLe (ps : List (Int × Int)) (p : Int) : Int := qAt (ps.map Prod.fst) p
theorem sPaths_size {z : Nat} {ps : List (Int × Int)} (h : qPths T r z) (hf : qPh m z ps) : qP m_Paths_size [qK z] (T, m, r) (qI ps.length) := by
  refine qr_al rfl rfl (w := ?_)
  refine qr_gr rfl h.1 (hr := h.2.1) (w := ?_)
  refine qr_callP rfl (sRow_len h.2.2.2.1 hf.1) (qrcv1 h.2.2.2.1.1) (w := ?_)
  rw [List.length_map]
  refine qW_ireturn rfl ?_
  exact ⟨rfl, rfl⟩
theorem sPaths_letterOf {z : Nat} {p : Int} {ps : List (Int × Int)} (h : qPths T r z) (hf : qPh m z ps) : qP m_Paths_letterOf [qK z, qI p] (T, m, r) (qI (qLe ps p)) := by
  refine qr_al rfl rfl (w := ?_)
  refine qr_gr rfl h.1 (hr := h.2.1) (w := ?_)
  refine qr_il rfl rfl (w := ?_)
  refine qr_callP rfl (sRow_at h.2.2.2.1 hf.1 (by rw [List.length_map]; exact hf.2.2)) (qrcv1 h.2.2.2.1.1) (w := ?_)
  refine qW_ireturn rfl ?_
  exact ⟨rfl, rfl⟩
theorem sPaths_outerOf {z : Nat} {p : Int} {ps : List (Int × Int)} (h : qPths T r z) (hf : qPh m z ps) : qP m_Paths_outerOf [qK z, qI p] (T, m, r) (qI (qOu ps p)) := by
  refine qr_al rfl rfl (w := ?_)
  refine qr_gr rfl h.1 (hr := h.2.2.1) (w := ?_)
  refine qr_il rfl rfl (w := ?_)
  refine qr_callP rfl (sRow_at h.2.2.2.2 hf.2.1 (by rw [List.length_map]; exact hf.2.2)) (qrcv1 h.2.2.2.2.1) (w := ?_)
  refine qW_ireturn rfl ?_
  exact ⟨rfl, rfl⟩
theorem sPaths_cutTo {z k : Nat} {ps : List (Int × Int)} (h : qPths T r z) (hf : qPh m z ps) : qW m_Paths_cutTo 0 [qK z, qI k] [] (T, m, r) (fun _ σ => ∃ m', σ = (T, m', r) ∧ qPh m' z (ps.take k) ∧ qFr (qIv z (z + 5)) m m') := by
  refine qr_al rfl rfl (w := ?_)
  refine qr_gr rfl h.1 (hr := h.2.1) (w := ?_)
  refine qr_il rfl rfl (w := ?_)
  refine qr_callV rfl (sRow_cut h.2.2.2.1 hf.1) (qrcv1 h.2.2.2.1.1) (w := fun _ σ hσ => ?_)
  obtain ⟨m1, rfl, hz1, hf1⟩ := hσ
  refine qr_al rfl rfl (w := ?_)
  refine qr_gr rfl h.1 (hr := h.2.2.1) (w := ?_)
  refine qr_il rfl rfl (w := ?_)
  refine qr_callV rfl (sRow_cut h.2.2.2.2 (qRw_fr hf.2.1 hf1 (by show ¬ z + 3 = z + 1; omega) (by show ¬ z + 3 + 1 = z + 1; omega))) (qrcv1 h.2.2.2.2.1) (w := fun _ σ hσ => ?_)
  obtain ⟨m2, rfl, hz2, hf2⟩ := hσ
  refine qW_return rfl ?_
  refine ⟨_, rfl, ⟨?_, ?_, by rw [List.length_take]; have := hf.2.2; omega⟩, qFr_tr (qFr_mo hf1 (fun a ha => ?_)) (qFr_mo hf2 (fun a ha => ?_))⟩
  · rw [List.map_take]
    exact qRw_fr hz1 hf2 (by show ¬ z + 1 = z + 3; omega) (by show ¬ z + 1 + 1 = z + 3; omega)
  · rw [List.map_take]
    exact hz2
  · subst ha
    constructor <;> omega
  · subst ha
    constructor <;> omega
/-- the place of a pair, from a on; the end if it isn't there -/
def qFi : List (Int × Int) → Int → Int → Nat → Nat
  | [], _, _, a => a
  | p :: t, l, u, a => if p.1 = l ∧ p.2 = u then a else qFi t l u (a + 1)
theorem qFi_le (ps : List (Int × Int)) (l u : Int) : ∀ a, a ≤ qFi ps l u a ∧ qFi ps l u a ≤ a + ps.length := by
  induction ps with
  | nil => intro a; simp [qFi]
  | cons p t ih =>
    intro a
    simp only [qFi, List.length_cons]
    have := ih (a + 1)
    split <;> omega
def qAd (ps : List (Int × Int)) (l u : Int) : List (Int × Int) := if qFi ps l u 0 < ps.length then ps else ps ++ [(l, u)]
theorem qdrop2 {α : Type} {l : List α} {i : Nat} (h : i < l.length) : l.drop i = l[i] :: l.drop (i + 1) := List.drop_eq_getElem_cons h
theorem qLe_at {ps : List (Int × Int)} {i : Nat} (h : i < ps.length) : qAt (ps.map Prod.fst) i = ps[i].1 := by
  rw [qAt_lt (by simpa using h)]
  simp
theorem qOu_at {ps : List (Int × Int)} {i : Nat} (h : i < ps.length) : qAt (ps.map Prod.snd) i = ps[i].2 := by
  rw [qAt_lt (by simpa using h)]
  simp
theorem sPaths_findOrAdd_loop {z : Nat} {l u : Int} {ps : List (Int × Int)} (h : qPths T r z) (hf : qPh m z ps) (hn : ps.length < 86) : ∀ (k i : Nat), i + k = ps.length → (qFi (ps.drop i) l u i = qFi ps l u 0) → qW m_Paths_findOrAdd 2 [qK z, qI l, qI u, qI i] [] (T, m, r) (fun x σ => ∃ m', σ = (T, m', r) ∧ x = qI (qFi ps l u 0) ∧ qPh m' z (qAd ps l u) ∧ qFr (qIv z (z + 5)) m m') := by
  intro k
  induction k with
  | zero =>
    intro i hik hfi
    rw [show ps.drop i = [] by rw [List.drop_eq_nil_iff]; omega] at hfi
    simp only [qFi] at hfi
    refine qr_il rfl rfl (w := ?_)
    refine qr_al rfl rfl (w := ?_)
    refine qr_gr rfl h.1 (hr := h.2.1) (w := ?_)
    refine qr_callP rfl (sRow_len h.2.2.2.1 hf.1) (qrcv1 h.2.2.2.1.1) (w := ?_)
    rw [List.length_map]
    refine qr_icge rfl (fun hc => ?_) (fun hc => ?_)
    · refine qr_al rfl rfl (w := ?_)
      refine qr_gr rfl h.1 (hr := h.2.1) (w := ?_)
      refine qr_il rfl rfl (w := ?_)
      refine qr_callV rfl (sRow_add h.2.2.2.1 hf.1 (by rw [List.length_map]; exact hn)) (qrcv1 h.2.2.2.1.1) (w := fun _ σ hσ => ?_)
      obtain ⟨m1, rfl, hz1, hf1⟩ := hσ
      have hf2 : qRw m1 (z + 3) (ps.map Prod.snd) := qRw_fr hf.2.1 hf1 (by show ¬ (z + 3 = z + 1 ∨ z + 3 = z + 1 + 1); omega) (by show ¬ (z + 3 + 1 = z + 1 ∨ z + 3 + 1 = z + 1 + 1); omega)
      refine qr_al rfl rfl (w := ?_)
      refine qr_gr rfl h.1 (hr := h.2.2.1) (w := ?_)
      refine qr_il rfl rfl (w := ?_)
      refine qr_callV rfl (sRow_add h.2.2.2.2 hf2 (by rw [List.length_map]; exact hn)) (qrcv1 h.2.2.2.2.1) (w := fun _ σ hσ => ?_)
      obtain ⟨m2, rfl, hz2, hf3⟩ := hσ
      have hz3 : qRw m2 (z + 1) (ps.map Prod.fst ++ [l]) := qRw_fr hz1 hf3 (by show ¬ (z + 1 = z + 3 ∨ z + 1 = z + 3 + 1); omega) (by show ¬ (z + 1 + 1 = z + 3 ∨ z + 1 + 1 = z + 3 + 1); omega)
      refine qr_al rfl rfl (w := ?_)
      refine qr_gr rfl h.1 (hr := h.2.1) (w := ?_)
      refine qr_callP rfl (sRow_len h.2.2.2.1 hz3) (qrcv1 h.2.2.2.1.1) (w := ?_)
      rw [List.length_append, List.length_map]
      refine qr_const rfl (w := ?_)
      refine qr_sub rfl (by simp only [List.length_cons, List.length_nil]; omega) (w := ?_)
      refine qW_ireturn rfl ?_
      refine ⟨_, rfl, ?_, ?_, qFr_tr (qFr_Pz hf1 (by omega) (by omega)) (qFr_Pz hf3 (by omega) (by omega))⟩
      · rw [← hfi]
        simp only [List.length_cons, List.length_nil]
        exact congrArg qI (by omega)
      · have hno : ¬ qFi ps l u 0 < ps.length := by omega
        unfold qAd
        rw [if_neg hno]
        refine ⟨?_, ?_, by simp; omega⟩
        · rw [List.map_append]; exact hz3
        · rw [List.map_append]; exact hz2
    · exact absurd hc (by omega)
  | succ k ih =>
    intro i hik hfi
    rw [qdrop2 (by omega)] at hfi
    refine qr_il rfl rfl (w := ?_)
    refine qr_al rfl rfl (w := ?_)
    refine qr_gr rfl h.1 (hr := h.2.1) (w := ?_)
    refine qr_callP rfl (sRow_len h.2.2.2.1 hf.1) (qrcv1 h.2.2.2.1.1) (w := ?_)
    rw [List.length_map]
    refine qr_icge rfl (fun hc => ?_) (fun hc => ?_)
    · exact absurd hc (by omega)
    · refine qr_al rfl rfl (w := ?_)
      refine qr_gr rfl h.1 (hr := h.2.1) (w := ?_)
      refine qr_il rfl rfl (w := ?_)
      refine qr_callP rfl (sRow_at h.2.2.2.1 hf.1 (by rw [List.length_map]; exact hf.2.2)) (qrcv1 h.2.2.2.1.1) (w := ?_)
      refine qr_il rfl rfl (w := ?_)
      refine qr_icne rfl (fun hcf => ?_) (fun hcf => ?_)
      · refine qr_inc3 rfl (by omega) (w := ?_)
        refine qr_goto rfl (w := ?_)
        rw [qLe_at (by omega)] at hcf
        first
          | (rw [qOu_at (by omega)] at hcff
             have hno : ¬ (ps[i].1 = l ∧ ps[i].2 = u) := fun e => hcff e.2
             simp only [qFi, if_neg hno] at hfi
             exact ih (i + 1) (by omega) hfi)
          | (have hno : ¬ (ps[i].1 = l ∧ ps[i].2 = u) := fun e => hcf e.1
             simp only [qFi, if_neg hno] at hfi
             exact ih (i + 1) (by omega) hfi)
      · refine qr_al rfl rfl (w := ?_)
        refine qr_gr rfl h.1 (hr := h.2.2.1) (w := ?_)
        refine qr_il rfl rfl (w := ?_)
        refine qr_callP rfl (sRow_at h.2.2.2.2 hf.2.1 (by rw [List.length_map]; exact hf.2.2)) (qrcv1 h.2.2.2.2.1) (w := ?_)
        refine qr_il rfl rfl (w := ?_)
        refine qr_icne rfl (fun hcff => ?_) (fun hcff => ?_)
        · refine qr_inc3 rfl (by omega) (w := ?_)
          refine qr_goto rfl (w := ?_)
          rw [qLe_at (by omega)] at hcf
          first
            | (rw [qOu_at (by omega)] at hcff
               have hno : ¬ (ps[i].1 = l ∧ ps[i].2 = u) := fun e => hcff e.2
               simp only [qFi, if_neg hno] at hfi
               exact ih (i + 1) (by omega) hfi)
            | (have hno : ¬ (ps[i].1 = l ∧ ps[i].2 = u) := fun e => hcf e.1
               simp only [qFi, if_neg hno] at hfi
               exact ih (i + 1) (by omega) hfi)
        · rw [qLe_at (by omega)] at hcf
          rw [qOu_at (by omega)] at hcff
          have hye : ps[i].1 = l ∧ ps[i].2 = u := ⟨hcf, hcff⟩
          simp only [qFi, if_pos hye] at hfi
          refine qr_il rfl rfl (w := ?_)
          refine qW_ireturn rfl ⟨m, rfl, by rw [hfi], ?_, qFr_rf⟩
          unfold qAd
          rw [if_pos (by omega)]
          exact hf
theorem sPaths_findOrAdd {z : Nat} {l u : Int} {ps : List (Int × Int)} (h : qPths T r z) (hf : qPh m z ps) (hn : ps.length < 86) : qW m_Paths_findOrAdd 0 [qK z, qI l, qI u, none] [] (T, m, r) (fun x σ => ∃ m', σ = (T, m', r) ∧ x = qI (qFi ps l u 0) ∧ qPh m' z (qAd ps l u) ∧ qFr (qIv z (z + 5)) m m') := by
  refine qr_const rfl (w := ?_)
  refine qr_is3 rfl (w := ?_)
  exact sPaths_findOrAdd_loop h hf hn ps.length 0 (by omega) rfl
/-- a path is another one, or stands within it, seen n levels up -/
def qWi (ps : List (Int × Int)) : Nat → Int → Int → Bool
  | 0, _, _ => false
  | n + 1, p, q => if p = -9 then false else if p = q then true else qWi ps n (qOu ps p) q
theorem sPaths_isWithin_loop {z : Nat} {p0 q : Int} {ps : List (Int × Int)} (h : qPths T r z) (hf : qPh m z ps) : ∀ (k i : Nat) (p : Int), i + k = 4 → qP2 m_Paths_isWithin 5 [qK z, qI p0, qI q, qI p, qI i] (T, m, r) (qI (qbi (qWi ps k p q))) := by
  intro k
  induction k with
  | zero =>
    intro i p hik
    unfold qP2
    refine qr_il rfl rfl (w := ?_)
    refine qr_const rfl (w := ?_)
    refine qr_icge rfl (fun hc => ?_) (fun hc => ?_)
    · refine qr_const rfl (w := ?_)
      refine qW_zreturn rfl (by first | exact Or.inl rfl | exact Or.inr rfl | (simp only [qbi]; split <;> simp)) ?_
      exact ⟨rfl, rfl⟩
    · exact absurd hc (by omega)
  | succ k ih =>
    intro i p hik
    unfold qP2
    refine qr_il rfl rfl (w := ?_)
    refine qr_const rfl (w := ?_)
    refine qr_icge rfl (fun hc => ?_) (fun hc => ?_)
    · refine qr_const rfl (w := ?_)
      refine qW_zreturn rfl (by first | exact Or.inl rfl | exact Or.inr rfl | (simp only [qbi]; split <;> simp)) ?_
      first
        | exact absurd hc (by omega)
        | exact ⟨by simp only [qWi, if_pos hcf, qbi_f], rfl⟩
    · refine qr_il rfl rfl (w := ?_)
      refine qr_const rfl (w := ?_)
      refine qr_iceq rfl (fun hcf => ?_) (fun hcf => ?_)
      · refine qr_const rfl (w := ?_)
        refine qW_zreturn rfl (by first | exact Or.inl rfl | exact Or.inr rfl | (simp only [qbi]; split <;> simp)) ?_
        first
          | exact absurd hc (by omega)
          | exact ⟨by simp only [qWi, if_pos hcf, qbi_f], rfl⟩
      · refine qr_il rfl rfl (w := ?_)
        refine qr_il rfl rfl (w := ?_)
        refine qr_icne rfl (fun hcff => ?_) (fun hcff => ?_)
        · refine qr_al rfl rfl (w := ?_)
          refine qr_gr rfl h.1 (hr := h.2.2.1) (w := ?_)
          refine qr_il rfl rfl (w := ?_)
          refine qr_callP rfl (sRow_at h.2.2.2.2 hf.2.1 (by rw [List.length_map]; exact hf.2.2)) (qrcv1 h.2.2.2.2.1) (w := ?_)
          refine qr_is3 rfl (w := ?_)
          refine qr_inc4 rfl (by omega) (w := ?_)
          refine qr_goto rfl (w := ?_)
          have h1 := ih (i + 1) (qOu ps p) (by omega)
          simp only [qWi, if_neg hcf, if_neg hcff]
          exact h1
        · refine qr_const rfl (w := ?_)
          refine qW_zreturn rfl (Or.inr rfl) ⟨?_, rfl⟩
          simp only [qWi, if_neg hcf, if_pos hcff, qbi_t]
theorem sPaths_isWithin {z : Nat} {p q : Int} {ps : List (Int × Int)} (h : qPths T r z) (hf : qPh m z ps) : qP m_Paths_isWithin [qK z, qI p, qI q, none, none] (T, m, r) (qI (qbi (qWi ps 4 p q))) := by
  refine qr_il rfl rfl (w := ?_)
  refine qr_is3 rfl (w := ?_)
  refine qr_const rfl (w := ?_)
  refine qr_is4 rfl (w := ?_)
  exact sPaths_isWithin_loop h hf 4 0 p (by omega)
def qSt (T : List (Nat × Nat)) (r : Nat → Int → Option Nat) (z : Nat) : Prop := T[z]? = some (0, 6) ∧ r z 0 = some (z + 1) ∧ r z 1 = some (z + 3) ∧ qRow T r (z + 1) 30 ∧ qRow T r (z + 3) 300
def qSc (m : Nat → Int → Int) (z : Nat) (rs vs : List Int) (pk sk bd : Int) : Prop := qRw m (z + 1) rs ∧ qRw m (z + 3) vs ∧ m z 2 = pk ∧ m z 3 = sk ∧ m z 4 = bd ∧ rs.length ≤ 30 ∧ vs.length = 10 * rs.length
theorem qSc_fr {P : Nat → Prop} {m m' : Nat → Int → Int} {z : Nat} {rs vs : List Int} {pk sk bd : Int} (h : qSc m z rs vs pk sk bd) (f : qFr P m m') (h0 : ∀ a, z ≤ a → a < z + 5 → ¬ P a) : qSc m' z rs vs pk sk bd :=
  ⟨qRw_fr h.1 f (h0 _ (by omega) (by omega)) (h0 _ (by omega) (by omega)), qRw_fr h.2.1 f (h0 _ (by omega) (by omega)) (h0 _ (by omega) (by omega)), by rw [f z (h0 _ (by omega) (by omega))]; exact h.2.2.1, by rw [f z (h0 _ (by omega) (by omega))]; exact h.2.2.2.1, by rw [f z (h0 _ (by omega) (by omega))]; exact h.2.2.2.2.1, h.2.2.2.2.2.1, h.2.2.2.2.2.2⟩
/-- how many are x; how many aren't -9; the place of the (n+1)th x -/
def qCt : List Int → Int → Int
  | [], _ => 0
  | f :: t, x => (if f = x then 1 else 0) + qCt t x
def qNe : List Int → Int
  | [] => 0
  | f :: t => (if f ≠ -9 then 1 else 0) + qNe t
def qNt : List Int → Int → Int → Int → Int
  | [], _, _, _ => -9
  | f :: t, x, n, a => if f = x then (if n = 0 then a else qNt t x (n - 1) (a + 1)) else qNt t x n (a + 1)
theorem qCt_le (l : List Int) (x : Int) : 0 ≤ qCt l x ∧ qCt l x ≤ l.length := by
  induction l with
  | nil => simp [qCt]
  | cons f t ih =>
    simp only [qCt, List.length_cons]
    split <;> omega
theorem qNe_le (l : List Int) : 0 ≤ qNe l ∧ qNe l ≤ l.length := by
  induction l with
  | nil => simp [qNe]
  | cons f t ih =>
    simp only [qNe, List.length_cons]
    split <;> omega
theorem sState_shapeOf {z : Nat} {rs vs : List Int} {pk sk bd : Int} (h : qSt T r z) (hf : qSc m z rs vs pk sk bd) {i : Int} : qP m_State_shapeOf [qK z, qI i] (T, m, r) (qI (qAt rs i)) := by
  refine qr_al rfl rfl (w := ?_)
  refine qr_gr rfl h.1 (hr := h.2.1) (w := ?_)
  refine qr_il rfl rfl (w := ?_)
  refine qr_callP rfl (sRow_at h.2.2.2.1 hf.1 hf.2.2.2.2.2.1) (qrcv1 h.2.2.2.1.1) (w := ?_)
  refine qW_ireturn rfl ?_
  exact ⟨rfl, rfl⟩
theorem sState_has {z : Nat} {rs vs : List Int} {pk sk bd : Int} (h : qSt T r z) (hf : qSc m z rs vs pk sk bd) {i : Int} : qP m_State_has [qK z, qI i] (T, m, r) (qI (qbi (decide (qAt rs i ≠ -9)))) := by
  refine qr_al rfl rfl (w := ?_)
  refine qr_gr rfl h.1 (hr := h.2.1) (w := ?_)
  refine qr_il rfl rfl (w := ?_)
  refine qr_callP rfl (sRow_at h.2.2.2.1 hf.1 hf.2.2.2.2.2.1) (qrcv1 h.2.2.2.1.1) (w := ?_)
  refine qr_const rfl (w := ?_)
  refine qr_iceq rfl (fun hc => ?_) (fun hc => ?_)
  · refine qr_const rfl (w := ?_)
    refine qW_zreturn rfl (by first | exact Or.inl rfl | exact Or.inr rfl | (simp only [qbi]; split <;> simp)) ?_
    exact ⟨by simp [qbi, hc], rfl⟩
  · refine qr_const rfl (w := ?_)
    refine qr_goto rfl (w := ?_)
    refine qW_zreturn rfl (by first | exact Or.inl rfl | exact Or.inr rfl | (simp only [qbi]; split <;> simp)) ?_
    exact ⟨by simp [qbi, hc], rfl⟩
theorem sState_recordsRead {z : Nat} {rs vs : List Int} {pk sk bd : Int} (h : qSt T r z) (hf : qSc m z rs vs pk sk bd) : qP m_State_recordsRead [qK z] (T, m, r) (qI rs.length) := by
  refine qr_al rfl rfl (w := ?_)
  refine qr_gr rfl h.1 (hr := h.2.1) (w := ?_)
  refine qr_callP rfl (sRow_len h.2.2.2.1 hf.1) (qrcv1 h.2.2.2.1.1) (w := ?_)
  refine qW_ireturn rfl ?_
  exact ⟨rfl, rfl⟩
theorem sState_recordsLeft_loop {z : Nat} {rs vs : List Int} {pk sk bd : Int} (h : qSt T r z) (hf : qSc m z rs vs pk sk bd) : ∀ (k i : Nat) (a : Int), i + k = rs.length → 0 ≤ a → a ≤ i → qP2 m_State_recordsLeft 4 [qK z, qI a, qI i] (T, m, r) (qI (a + qNe (rs.drop i))) := by
  have h30 := hf.2.2.2.2.2.1
  intro k
  induction k with
  | zero =>
    intro i a hik ha hb
    rw [qdrop_nil (by omega)]
    unfold qP2
    refine qr_il rfl rfl (w := ?_)
    refine qr_al rfl rfl (w := ?_)
    refine qr_gr rfl h.1 (hr := h.2.1) (w := ?_)
    refine qr_callP rfl (sRow_len h.2.2.2.1 hf.1) (qrcv1 h.2.2.2.1.1) (w := ?_)
    refine qr_icge rfl (fun hc => ?_) (fun hc => ?_)
    · refine qr_il rfl rfl (w := ?_)
      refine qW_ireturn rfl ?_
      exact ⟨by simp [qNe], rfl⟩
    · exact absurd hc (by omega)
  | succ k ih =>
    intro i a hik ha hb
    rw [qdrop (by omega)]
    unfold qP2
    refine qr_il rfl rfl (w := ?_)
    refine qr_al rfl rfl (w := ?_)
    refine qr_gr rfl h.1 (hr := h.2.1) (w := ?_)
    refine qr_callP rfl (sRow_len h.2.2.2.1 hf.1) (qrcv1 h.2.2.2.1.1) (w := ?_)
    refine qr_icge rfl (fun hc => ?_) (fun hc => ?_)
    · exact absurd hc (by omega)
    · refine qr_al rfl rfl (w := ?_)
      refine qr_il rfl rfl (w := ?_)
      refine qr_callP rfl (sState_has h hf) (qrcv1 h.1) (w := ?_)
      refine qr_ifeqB rfl (fun hcf => ?_) (fun hcf => ?_)
      · refine qr_inc2 rfl (by omega) (w := ?_)
        refine qr_goto rfl (w := ?_)
        rw [qAt_lt (by omega)] at *
        have h1 := ih (i + 1) (a) (by omega) (by omega) (by omega)
        have h2 : a + qNe (rs[i] :: rs.drop (i + 1)) = (a) + qNe (rs.drop (i + 1)) := by
          simp only [decide_eq_true_eq, decide_eq_false_iff_not] at *
          simp only [qNe]
          split <;> (try omega)
          all_goals contradiction
        rw [h2]
        exact h1
      · refine qr_inc1 rfl (by omega) (w := ?_)
        refine qr_inc2 rfl (by omega) (w := ?_)
        refine qr_goto rfl (w := ?_)
        rw [qAt_lt (by omega)] at *
        have h1 := ih (i + 1) (a + 1) (by omega) (by omega) (by omega)
        have h2 : a + qNe (rs[i] :: rs.drop (i + 1)) = (a + 1) + qNe (rs.drop (i + 1)) := by
          simp only [decide_eq_true_eq, decide_eq_false_iff_not] at *
          simp only [qNe]
          split <;> (try omega)
          all_goals contradiction
        rw [h2]
        exact h1
theorem sState_recordsLeft {z : Nat} {rs vs : List Int} {pk sk bd : Int} (h : qSt T r z) (hf : qSc m z rs vs pk sk bd) : qP m_State_recordsLeft [qK z, none, none] (T, m, r) (qI (qNe rs)) := by
  refine qr_const rfl (w := ?_)
  refine qr_is1 rfl (w := ?_)
  refine qr_const rfl (w := ?_)
  refine qr_is2 rfl (w := ?_)
  have h1 := sState_recordsLeft_loop h hf rs.length 0 0 (by omega) (by omega) (by omega)
  rw [Int.zero_add] at h1
  exact h1
theorem sState_recordsWith_loop {z : Nat} {rs vs : List Int} {pk sk bd : Int} (h : qSt T r z) (hf : qSc m z rs vs pk sk bd) {x : Int} : ∀ (k i : Nat) (a : Int), i + k = rs.length → 0 ≤ a → a ≤ i → qP2 m_State_recordsWith 4 [qK z, qI x, qI a, qI i] (T, m, r) (qI (a + qCt (rs.drop i) x)) := by
  have h30 := hf.2.2.2.2.2.1
  intro k
  induction k with
  | zero =>
    intro i a hik ha hb
    rw [qdrop_nil (by omega)]
    unfold qP2
    refine qr_il rfl rfl (w := ?_)
    refine qr_al rfl rfl (w := ?_)
    refine qr_gr rfl h.1 (hr := h.2.1) (w := ?_)
    refine qr_callP rfl (sRow_len h.2.2.2.1 hf.1) (qrcv1 h.2.2.2.1.1) (w := ?_)
    refine qr_icge rfl (fun hc => ?_) (fun hc => ?_)
    · refine qr_il rfl rfl (w := ?_)
      refine qW_ireturn rfl ?_
      exact ⟨by simp [qCt], rfl⟩
    · exact absurd hc (by omega)
  | succ k ih =>
    intro i a hik ha hb
    rw [qdrop (by omega)]
    unfold qP2
    refine qr_il rfl rfl (w := ?_)
    refine qr_al rfl rfl (w := ?_)
    refine qr_gr rfl h.1 (hr := h.2.1) (w := ?_)
    refine qr_callP rfl (sRow_len h.2.2.2.1 hf.1) (qrcv1 h.2.2.2.1.1) (w := ?_)
    refine qr_icge rfl (fun hc => ?_) (fun hc => ?_)
    · exact absurd hc (by omega)
    · refine qr_al rfl rfl (w := ?_)
      refine qr_gr rfl h.1 (hr := h.2.1) (w := ?_)
      refine qr_il rfl rfl (w := ?_)
      refine qr_callP rfl (sRow_at h.2.2.2.1 hf.1 hf.2.2.2.2.2.1) (qrcv1 h.2.2.2.1.1) (w := ?_)
      refine qr_il rfl rfl (w := ?_)
      refine qr_icne rfl (fun hcf => ?_) (fun hcf => ?_)
      · refine qr_inc3 rfl (by omega) (w := ?_)
        refine qr_goto rfl (w := ?_)
        rw [qAt_lt (by omega)] at *
        have h1 := ih (i + 1) (a) (by omega) (by omega) (by omega)
        have h2 : a + qCt (rs[i] :: rs.drop (i + 1)) x = (a) + qCt (rs.drop (i + 1)) x := by
          simp only [qCt]
          split <;> (try omega)
          all_goals contradiction
        rw [h2]
        exact h1
      · refine qr_inc2 rfl (by omega) (w := ?_)
        refine qr_inc3 rfl (by omega) (w := ?_)
        refine qr_goto rfl (w := ?_)
        rw [qAt_lt (by omega)] at *
        have h1 := ih (i + 1) (a + 1) (by omega) (by omega) (by omega)
        have h2 : a + qCt (rs[i] :: rs.drop (i + 1)) x = (a + 1) + qCt (rs.drop (i + 1)) x := by
          simp only [qCt]
          split <;> (try omega)
          all_goals contradiction
        rw [h2]
        exact h1
theorem sState_recordsWith {z : Nat} {rs vs : List Int} {pk sk bd : Int} (h : qSt T r z) (hf : qSc m z rs vs pk sk bd) {x : Int} : qP m_State_recordsWith [qK z, qI x, none, none] (T, m, r) (qI (qCt rs x)) := by
  refine qr_const rfl (w := ?_)
  refine qr_is2 rfl (w := ?_)
  refine qr_const rfl (w := ?_)
  refine qr_is3 rfl (w := ?_)
  have h1 := sState_recordsWith_loop h hf (x := x) rs.length 0 0 (by omega) (by omega) (by omega)
  rw [Int.zero_add] at h1
  exact h1
theorem sState_recordWith_loop {z : Nat} {rs vs : List Int} {pk sk bd : Int} (h : qSt T r z) (hf : qSc m z rs vs pk sk bd) {x n : Int} : ∀ (k i : Nat) (a : Int), i + k = rs.length → 0 ≤ a → a ≤ i → qP2 m_State_recordWith 5 [qK z, qI x, qI n, qI a, qI i] (T, m, r) (qI (qNt (rs.drop i) x (n - a) i)) := by
  have h30 := hf.2.2.2.2.2.1
  intro k
  induction k with
  | zero =>
    intro i a hik ha hb
    rw [qdrop_nil (by omega)]
    unfold qP2
    refine qr_il rfl rfl (w := ?_)
    refine qr_al rfl rfl (w := ?_)
    refine qr_gr rfl h.1 (hr := h.2.1) (w := ?_)
    refine qr_callP rfl (sRow_len h.2.2.2.1 hf.1) (qrcv1 h.2.2.2.1.1) (w := ?_)
    refine qr_icge rfl (fun hc => ?_) (fun hc => ?_)
    · refine qr_const rfl (w := ?_)
      refine qW_ireturn rfl ?_
      exact ⟨by simp [qNt], rfl⟩
    · exact absurd hc (by omega)
  | succ k ih =>
    intro i a hik ha hb
    rw [qdrop (by omega)]
    unfold qP2
    refine qr_il rfl rfl (w := ?_)
    refine qr_al rfl rfl (w := ?_)
    refine qr_gr rfl h.1 (hr := h.2.1) (w := ?_)
    refine qr_callP rfl (sRow_len h.2.2.2.1 hf.1) (qrcv1 h.2.2.2.1.1) (w := ?_)
    refine qr_icge rfl (fun hc => ?_) (fun hc => ?_)
    · exact absurd hc (by omega)
    · refine qr_al rfl rfl (w := ?_)
      refine qr_gr rfl h.1 (hr := h.2.1) (w := ?_)
      refine qr_il rfl rfl (w := ?_)
      refine qr_callP rfl (sRow_at h.2.2.2.1 hf.1 hf.2.2.2.2.2.1) (qrcv1 h.2.2.2.1.1) (w := ?_)
      refine qr_il rfl rfl (w := ?_)
      refine qr_icne rfl (fun hcf => ?_) (fun hcf => ?_)
      · refine qr_inc4 rfl (by omega) (w := ?_)
        refine qr_goto rfl (w := ?_)
        rw [qAt_lt (by omega)] at *
        have h1 := ih (i + 1) (a) (by omega) (by omega) (by omega)
        have h2 : qNt (rs[i] :: rs.drop (i + 1)) x (n - a) i = qNt (rs.drop (i + 1)) x (n - (a)) ((i + 1 : Nat) : Int) := by
          first
            | (simp only [qNt, if_neg hcf]; congr 1; done)
            | (simp only [qNt, if_pos hcf]
               rw [if_neg (by omega), show n - a - 1 = n - (a + 1) by omega]
               congr 1)
        rw [h2]
        exact h1
      · refine qr_il rfl rfl (w := ?_)
        refine qr_il rfl rfl (w := ?_)
        refine qr_icne rfl (fun hcff => ?_) (fun hcff => ?_)
        · refine qr_inc3 rfl (by omega) (w := ?_)
          refine qr_inc4 rfl (by omega) (w := ?_)
          refine qr_goto rfl (w := ?_)
          rw [qAt_lt (by omega)] at *
          have h1 := ih (i + 1) (a + 1) (by omega) (by omega) (by omega)
          have h2 : qNt (rs[i] :: rs.drop (i + 1)) x (n - a) i = qNt (rs.drop (i + 1)) x (n - (a + 1)) ((i + 1 : Nat) : Int) := by
            first
              | (simp only [qNt, if_neg hcf]; congr 1; done)
              | (simp only [qNt, if_pos hcf]
                 rw [if_neg (by omega), show n - a - 1 = n - (a + 1) by omega]
                 congr 1)
          rw [h2]
          exact h1
        · rw [qAt_lt (by omega)] at *
          refine qr_il rfl rfl (w := ?_)
          refine qW_ireturn rfl ⟨?_, rfl⟩
          simp only [qNt, if_pos hcf]
          rw [if_pos (by omega)]
theorem sState_recordWith {z : Nat} {rs vs : List Int} {pk sk bd : Int} (h : qSt T r z) (hf : qSc m z rs vs pk sk bd) {x n : Int} : qP m_State_recordWith [qK z, qI x, qI n, none, none] (T, m, r) (qI (qNt rs x n 0)) := by
  refine qr_const rfl (w := ?_)
  refine qr_is3 rfl (w := ?_)
  refine qr_const rfl (w := ?_)
  refine qr_is4 rfl (w := ?_)
  have h1 := sState_recordWith_loop h hf (x := x) (n := n) rs.length 0 0 (by omega) (by omega) (by omega)
  rw [Int.sub_zero] at h1
  exact h1
theorem sState_valueAt {z : Nat} {rs vs : List Int} {pk sk bd : Int} (h : qSt T r z) (hf : qSc m z rs vs pk sk bd) {i j : Int} (hi : -1000 ≤ i ∧ i ≤ 1000) (hj : -1000 ≤ j ∧ j ≤ 1000) : qP m_State_valueAt [qK z, qI i, qI j] (T, m, r) (qI (qAt vs (i * 10 + j))) := by
  refine qr_al rfl rfl (w := ?_)
  refine qr_gr rfl h.1 (hr := h.2.2.1) (w := ?_)
  refine qr_il rfl rfl (w := ?_)
  refine qr_const rfl (w := ?_)
  refine qr_mul rfl (by omega) (w := ?_)
  refine qr_il rfl rfl (w := ?_)
  refine qr_add rfl (by omega) (w := ?_)
  refine qr_callP rfl (sRow_at h.2.2.2.2 hf.2.1 (by have h1 := hf.2.2.2.2.2.1; have h2 := hf.2.2.2.2.2.2; omega)) (qrcv1 h.2.2.2.2.1) (w := ?_)
  refine qW_ireturn rfl ?_
  exact ⟨rfl, rfl⟩
theorem sState_setValue {z : Nat} {rs vs : List Int} {pk sk bd : Int} (h : qSt T r z) (hf : qSc m z rs vs pk sk bd) {i : Nat} {j x : Int} (hi : i < rs.length) (hj : 0 ≤ j ∧ j < 10) : qW m_State_setValue 0 [qK z, qI i, qI j, qI x] [] (T, m, r) (fun _ σ => ∃ m', σ = (T, m', r) ∧ qSc m' z rs (vs.set (i * 10 + j.toNat) x) pk sk bd ∧ qFr (qIv (z + 3) (z + 5)) m m') := by
  have h1 := hf.2.2.2.2.2.1
  have h2 := hf.2.2.2.2.2.2
  refine qr_al rfl rfl (w := ?_)
  refine qr_gr rfl h.1 (hr := h.2.2.1) (w := ?_)
  refine qr_il rfl rfl (w := ?_)
  refine qr_const rfl (w := ?_)
  refine qr_mul rfl (by omega) (w := ?_)
  refine qr_il rfl rfl (w := ?_)
  refine qr_add rfl (by omega) (w := ?_)
  refine qr_il rfl rfl (w := ?_)
  refine qr_callV rfl (sRow_put (i := (i : Int) * 10 + j) h.2.2.2.2 hf.2.1 (by omega) ⟨by omega, by omega⟩) (qrcv1 h.2.2.2.2.1) (w := fun _ σ hσ => ?_)
  obtain ⟨m1, rfl, hz1, hf1⟩ := hσ
  refine qW_return rfl ?_
  have e : ((i : Int) * 10 + j).toNat = i * 10 + j.toNat := by omega
  rw [e] at hz1
  have hk : m1 z = m z := hf1 z (by show ¬ (z = z + 3 ∨ z = z + 3 + 1); omega)
  refine ⟨_, rfl, ⟨qRw_fr hf.1 hf1 (by show ¬ (z + 1 = z + 3 ∨ z + 1 = z + 3 + 1); omega) (by show ¬ (z + 1 + 1 = z + 3 ∨ z + 1 + 1 = z + 3 + 1); omega), hz1, by rw [hk]; exact hf.2.2.1, by rw [hk]; exact hf.2.2.2.1, by rw [hk]; exact hf.2.2.2.2.1, h1, by rw [List.length_set]; exact h2⟩, qFr_Pz hf1 (by omega) (by omega)⟩
theorem sState_setShapeOf {z : Nat} {rs vs : List Int} {pk sk bd : Int} (h : qSt T r z) (hf : qSc m z rs vs pk sk bd) {i : Nat} {x : Int} (hi : i < rs.length) : qW m_State_setShapeOf 0 [qK z, qI i, qI x] [] (T, m, r) (fun _ σ => ∃ m', σ = (T, m', r) ∧ qSc m' z (rs.set i x) vs pk sk bd ∧ qFr (qIv (z + 1) (z + 3)) m m') := by
  have h1 := hf.2.2.2.2.2.1
  have h2 := hf.2.2.2.2.2.2
  refine qr_al rfl rfl (w := ?_)
  refine qr_gr rfl h.1 (hr := h.2.1) (w := ?_)
  refine qr_il rfl rfl (w := ?_)
  refine qr_il rfl rfl (w := ?_)
  refine qr_callV rfl (sRow_put (i := (i : Int)) h.2.2.2.1 hf.1 (by omega) ⟨by omega, by omega⟩) (qrcv1 h.2.2.2.1.1) (w := fun _ σ hσ => ?_)
  obtain ⟨m1, rfl, hz1, hf1⟩ := hσ
  refine qW_return rfl ?_
  rw [Int.toNat_natCast] at hz1
  have hk : m1 z = m z := hf1 z (by show ¬ (z = z + 1 ∨ z = z + 1 + 1); omega)
  refine ⟨_, rfl, ⟨hz1, qRw_fr hf.2.1 hf1 (by show ¬ (z + 3 = z + 1 ∨ z + 3 = z + 1 + 1); omega) (by show ¬ (z + 3 + 1 = z + 1 ∨ z + 3 + 1 = z + 1 + 1); omega), by rw [hk]; exact hf.2.2.1, by rw [hk]; exact hf.2.2.2.1, by rw [hk]; exact hf.2.2.2.2.1, by rw [List.length_set]; exact h1, by rw [List.length_set]; exact h2⟩, qFr_Pz hf1 (by omega) (by omega)⟩
theorem sState_copyFrom {z y : Nat} {rs vs : List Int} {pk sk bd : Int} (h : qSt T r z) (h' : qSt T r y) (hg : qSc m y rs vs pk sk bd) (hd : z + 5 ≤ y ∨ y + 5 ≤ z) : qW m_State_copyFrom 0 [qK z, qK y] [] (T, m, r) (fun _ σ => ∃ m', σ = (T, m', r) ∧ qSc m' z rs vs pk sk bd ∧ qFr (qIv z (z + 5)) m m') := by
  have h1 := hg.2.2.2.2.2.1
  have h2 := hg.2.2.2.2.2.2
  refine qr_al rfl rfl (w := ?_)
  refine qr_gr rfl h.1 (hr := (by first | exact h.2.1 | exact h'.2.1)) (w := ?_)
  refine qr_al rfl rfl (w := ?_)
  refine qr_gr rfl h'.1 (hr := (by first | exact h.2.1 | exact h'.2.1)) (w := ?_)
  refine qr_callV rfl (sRow_copy h.2.2.2.1 h'.2.2.2.1 hg.1 h1 h1 (by omega)) (qrcv1 h.2.2.2.1.1) (w := fun _ σ hσ => ?_)
  obtain ⟨m1, rfl, hz1, hf1⟩ := hσ
  have ng : ∀ a, y ≤ a → a < y + 5 → ¬ qPz (z + 1) a := by intro a ha hb; show ¬ (a = z + 1 ∨ a = z + 1 + 1); omega
  have hg1 := qSc_fr hg hf1 ng
  refine qr_al rfl rfl (w := ?_)
  refine qr_gr rfl h.1 (hr := (by first | exact h.2.2.1 | exact h'.2.2.1)) (w := ?_)
  refine qr_al rfl rfl (w := ?_)
  refine qr_gr rfl h'.1 (hr := (by first | exact h.2.2.1 | exact h'.2.2.1)) (w := ?_)
  refine qr_callV rfl (sRow_copy h.2.2.2.2 h'.2.2.2.2 hg1.2.1 (by omega) (by omega) (by omega)) (qrcv1 h.2.2.2.2.1) (w := fun _ σ hσ => ?_)
  obtain ⟨m2, rfl, hz2, hf2⟩ := hσ
  have ng2 : ∀ a, y ≤ a → a < y + 5 → ¬ qPz (z + 3) a := by intro a ha hb; show ¬ (a = z + 3 ∨ a = z + 3 + 1); omega
  have hg2 := qSc_fr hg1 hf2 ng2
  have hz3 : qRw m2 (z + 1) rs := qRw_fr hz1 hf2 (by show ¬ (z + 1 = z + 3 ∨ z + 1 = z + 3 + 1); omega) (by show ¬ (z + 1 + 1 = z + 3 ∨ z + 1 + 1 = z + 3 + 1); omega)
  refine qr_al rfl rfl (w := ?_)
  refine qr_al rfl rfl (w := ?_)
  refine qr_gi rfl h'.1 (w := ?_)
  refine qr_pi rfl h.1 (w := ?_)
  refine qr_al rfl rfl (w := ?_)
  refine qr_al rfl rfl (w := ?_)
  refine qr_gi rfl h'.1 (w := ?_)
  refine qr_pi rfl h.1 (w := ?_)
  refine qr_al rfl rfl (w := ?_)
  refine qr_al rfl rfl (w := ?_)
  refine qr_gi rfl h'.1 (w := ?_)
  refine qr_pi rfl h.1 (w := ?_)
  refine qW_return rfl ?_
  have hzy : y ≠ z := by omega
  refine ⟨_, rfl, ⟨⟨by rw [qup_z (by omega), qup_z (by omega), qup_z (by omega)]; exact hz3.1, fun i hi => by rw [qup_z (by omega), qup_z (by omega), qup_z (by omega)]; exact hz3.2 i hi⟩, ⟨by rw [qup_z (by omega), qup_z (by omega), qup_z (by omega)]; exact hz2.1, fun i hi => by rw [qup_z (by omega), qup_z (by omega), qup_z (by omega)]; exact hz2.2 i hi⟩, ?_, ?_, ?_, h1, h2⟩, ?_⟩
  · rw [qup_i (by decide), qup_i (by decide), qup_s]; exact hg2.2.2.1
  · rw [qup_i (by decide), qup_s, qup_z hzy]; exact hg2.2.2.2.1
  · rw [qup_s, qup_z hzy, qup_z hzy]; exact hg2.2.2.2.2.1
  · exact qFr_tr (qFr_Pz hf1 (by omega) (by omega)) (qFr_tr (qFr_Pz hf2 (by omega) (by omega)) (qFr_tr (qFr_up ⟨by omega, by omega⟩) (qFr_tr (qFr_up ⟨by omega, by omega⟩) (qFr_up ⟨by omega, by omega⟩))))
/-- a record's values, filled up to ten -/
def qPad (ns : List Int) (n : Nat) : List Int := (List.range n).map (fun (i : Nat) => qAt ns i)
theorem qPad_succ (ns : List Int) (n : Nat) : qPad ns (n + 1) = qPad ns n ++ [qAt ns n] := by simp [qPad, List.range_succ]
theorem qPad_len (ns : List Int) (n : Nat) : (qPad ns n).length = n := by simp [qPad]
theorem sState_addRecord_loop {z y : Nat} {sh : Int} {rs ns vs : List Int} {n' : Nat} (h : qSt T r z) (h' : qRow T r y n') (hn' : ns.length ≤ n') (hd : y + 2 ≤ z ∨ z + 5 ≤ y) (hr30 : rs.length < 30) (hv : vs.length = 10 * rs.length) (P : Int → (Nat → Int → Int) → Prop) :
    ∀ (k i : Nat) (m : Nat → Int → Int), i + k = 10 → qRw m y ns → qRw m (z + 1) (rs ++ [sh]) → qRw m (z + 3) (vs ++ qPad ns i) → (∀ m', qRw m' (z + 1) (rs ++ [sh]) → qRw m' (z + 3) (vs ++ qPad ns 10) → qFr (qIv (z + 3) (z + 5)) m m' → P rs.length m') → qW m_State_addRecord 10 [qK z, qI sh, qK y, qI i] [] (T, m, r) (fun x σ => ∃ m', σ = (T, m', r) ∧ ∃ a, x = qI a ∧ P a m') := by
  intro k
  induction k with
  | zero =>
    intro i m hik hy hz hw hP
    have hi : i = 10 := by omega
    subst hi
    refine qr_il rfl rfl (w := ?_)
    refine qr_const rfl (w := ?_)
    refine qr_icge rfl (fun hc => ?_) (fun hc => ?_)
    · refine qr_al rfl rfl (w := ?_)
      refine qr_gr rfl h.1 (hr := h.2.1) (w := ?_)
      refine qr_callP rfl (sRow_len h.2.2.2.1 hz) (qrcv1 h.2.2.2.1.1) (w := ?_)
      rw [List.length_append]
      refine qr_const rfl (w := ?_)
      refine qr_sub rfl (by simp only [List.length_cons, List.length_nil]; omega) (w := ?_)
      refine qW_ireturn rfl ?_
      refine ⟨m, rfl, _, rfl, ?_⟩
      simp only [List.length_cons, List.length_nil]
      rw [show ((rs.length + (0 + 1) : Nat) : Int) - 1 = (rs.length : Int) by omega]
      exact hP m hz hw qFr_rf
    · exact absurd hc (by omega)
  | succ k ih =>
    intro i m hik hy hz hw hP
    refine qr_il rfl rfl (w := ?_)
    refine qr_const rfl (w := ?_)
    refine qr_icge rfl (fun hc => ?_) (fun hc => ?_)
    · exact absurd hc (by omega)
    · refine qr_al rfl rfl (w := ?_)
      refine qr_gr rfl h.1 (hr := h.2.2.1) (w := ?_)
      refine qr_al rfl rfl (w := ?_)
      refine qr_il rfl rfl (w := ?_)
      refine qr_callP rfl (sRow_at h' hy hn') (qrcv1 h'.1) (w := ?_)
      refine qr_callV rfl (sRow_add h.2.2.2.2 hw (by rw [List.length_append, qPad_len]; omega)) (qrcv1 h.2.2.2.2.1) (w := fun _ σ hσ => ?_)
      obtain ⟨m1, rfl, hz1, hf1⟩ := hσ
      refine qr_inc3 rfl (by omega) (w := ?_)
      refine qr_goto rfl (w := ?_)
      rw [List.append_assoc, ← qPad_succ] at hz1
      refine ih (i + 1) m1 (by omega) (qRw_fr hy hf1 (by show ¬ (y = z + 3 ∨ y = z + 3 + 1); omega) (by show ¬ (y + 1 = z + 3 ∨ y + 1 = z + 3 + 1); omega)) (qRw_fr hz hf1 (by show ¬ (z + 1 = z + 3 ∨ z + 1 = z + 3 + 1); omega) (by show ¬ (z + 1 + 1 = z + 3 ∨ z + 1 + 1 = z + 3 + 1); omega)) hz1 (fun m2 g1 g2 g3 => hP m2 g1 g2 (qFr_tr (qFr_Pz hf1 (by omega) (by omega)) g3))
theorem sState_addRecord {z : Nat} {rs vs : List Int} {pk sk bd : Int} (h : qSt T r z) (hf : qSc m z rs vs pk sk bd) {y n' : Nat} {sh : Int} {ns : List Int} (h' : qRow T r y n') (hn' : ns.length ≤ n') (hy : qRw m y ns) (hd : y + 2 ≤ z ∨ z + 5 ≤ y) (hr30 : rs.length < 30) : qW m_State_addRecord 0 [qK z, qI sh, qK y, none] [] (T, m, r) (fun x σ => ∃ m', σ = (T, m', r) ∧ x = qI rs.length ∧ qSc m' z (rs ++ [sh]) (vs ++ qPad ns 10) pk sk bd ∧ qFr (qIv (z + 1) (z + 5)) m m') := by
  have hv := hf.2.2.2.2.2.2
  refine qr_al rfl rfl (w := ?_)
  refine qr_gr rfl h.1 (hr := h.2.1) (w := ?_)
  refine qr_il rfl rfl (w := ?_)
  refine qr_callV rfl (sRow_add h.2.2.2.1 hf.1 hr30) (qrcv1 h.2.2.2.1.1) (w := fun _ σ hσ => ?_)
  obtain ⟨m1, rfl, hz1, hf1⟩ := hσ
  refine qr_const rfl (w := ?_)
  refine qr_is3 rfl (w := ?_)
  have hk : m1 z = m z := hf1 z (by show ¬ (z = z + 1 ∨ z = z + 1 + 1); omega)
  have L1 := sState_addRecord_loop (sh := sh) h h' hn' hd hr30 hv (fun a m' => a = rs.length ∧ qSc m' z (rs ++ [sh]) (vs ++ qPad ns 10) pk sk bd ∧ qFr (qIv (z + 1) (z + 5)) m m') 10 0 m1 (by omega) (qRw_fr hy hf1 (by show ¬ (y = z + 1 ∨ y = z + 1 + 1); omega) (by show ¬ (y + 1 = z + 1 ∨ y + 1 = z + 1 + 1); omega)) hz1 (by simp only [qPad, List.range_zero, List.map_nil, List.append_nil]; exact qRw_fr hf.2.1 hf1 (by show ¬ (z + 3 = z + 1 ∨ z + 3 = z + 1 + 1); omega) (by show ¬ (z + 3 + 1 = z + 1 ∨ z + 3 + 1 = z + 1 + 1); omega)) (fun m2 g1 g2 g3 => by
      have hk2 : m2 z = m z := (g3 z (by show ¬ (z + 3 ≤ z ∧ z < z + 5); omega)).trans hk
      exact ⟨rfl, ⟨g1, g2, by rw [hk2]; exact hf.2.2.1, by rw [hk2]; exact hf.2.2.2.1, by rw [hk2]; exact hf.2.2.2.2.1, by simp; omega, by simp only [List.length_append, qPad_len, List.length_cons, List.length_nil]; omega⟩, qFr_tr (qFr_Pz hf1 (by omega) (by omega)) (qFr_mo g3 (fun a ha => ⟨by have := ha.1; omega, ha.2⟩))⟩)
  refine qW_mono L1 (fun x σ hx => ?_)
  obtain ⟨m2, rfl, a, rfl, rfl, g1, g2⟩ := hx
  exact ⟨m2, rfl, rfl, g1, g2⟩
