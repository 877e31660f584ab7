/-! Pure facts of whole's parts 26 to 44 (by wip/p22/mk26.py): sums over records against sums over shapes, signs, texts -/
section S26
variable {m : Nat → Int → Int} {r : Nat → Int → Option Nat}
def qMl (a : qAS) : Prop := a.1.length ≤ 60 ∧ a.2.1.length ≤ 40 ∧ (∀ s, (qGf a.2.1 s).length ≤ 20) ∧ a.2.2.2.length ≤ 30 ∧ ∀ i, (qGet a i).2.length ≤ 10
theorem qMl_of {a : qAS} (h : qWA a) : qMl a := by
  refine ⟨h.1.1, h.2.1, fun s => (qWs_gf h s).1, h.2.2.2.2.1, fun i => ?_⟩
  unfold qGet
  rw [List.getD_eq_getElem?_getD]
  by_cases hi : i.toNat < a.2.2.2.length
  · rw [List.getElem?_eq_getElem hi]
    exact (h.2.2.2.2.2 _ (List.getElem_mem _)).1
  · rw [List.getElem?_eq_none (by omega)]
    exact Nat.zero_le _
theorem qSm_list {l : List Int} {F : List Int → Int} {g : Int → Int} (h0 : F [] = 0) (h1 : ∀ x t, F (x :: t) = g x + F t) : ∀ k i : Nat, i + k = l.length → qSm k i (fun j => g (qAt l j)) = F (l.drop i) := by
  intro k
  induction k with
  | zero =>
    intro i hik
    rw [qdrop_nil (by omega), h0]
    rfl
  | succ k ih =>
    intro i hik
    rw [qdrop (by omega), h1, ← ih (i + 1) (by omega), ← qAt_lt (by omega)]
    rfl
theorem qSm_list0 (l : List Int) {F : List Int → Int} (g : Int → Int) (h0 : F [] = 0) (h1 : ∀ x t, F (x :: t) = g x + F t) : qSm l.length 0 (fun j => g (qAt l j)) = F l := by
  have := qSm_list (l := l) h0 h1 l.length 0 (by omega)
  rw [List.drop_zero] at this
  exact this
def qRm (g : Int → Int) : List Int → Int
  | [] => 0
  | x :: t => (if x = -9 then 0 else g x) + qRm g t
theorem qSm_add (a b : Nat → Int) : ∀ k i : Nat, qSm k i (fun j => a j + b j) = qSm k i a + qSm k i b := by
  intro k
  induction k with
  | zero => intro i; rfl
  | succ k ih =>
    intro i
    simp only [qSm]
    rw [ih (i + 1)]
    omega
theorem qSm_zero : ∀ k i : Nat, qSm k i (fun _ => 0) = 0 := by
  intro k
  induction k with
  | zero => intro i; rfl
  | succ k ih =>
    intro i
    simp only [qSm]
    rw [ih (i + 1)]
    rfl
theorem qSm_delta (g : Int → Int) (x : Int) : ∀ k i : Nat, qSm k i (fun j => if x = j then g j else 0) = if (i : Int) ≤ x ∧ x < i + k then g x else 0 := by
  intro k
  induction k with
  | zero =>
    intro i
    rw [if_neg (by omega)]
    rfl
  | succ k ih =>
    intro i
    simp only [qSm]
    rw [ih (i + 1)]
    by_cases h : x = i
    · rw [if_pos h, if_neg (by omega), if_pos (by omega), h]
      omega
    · rw [if_neg h]
      by_cases h2 : ((i + 1 : Nat) : Int) ≤ x ∧ x < (i + 1 : Nat) + k
      · rw [if_pos h2, if_pos (by omega)]
        omega
      · rw [if_neg h2, if_neg (by omega)]
        rfl
theorem qRm_ex (g : Int → Int) (n : Nat) : ∀ rs : List Int, (∀ x ∈ rs, x = -9 ∨ (0 ≤ x ∧ x < n)) → qRm g rs = qSm n 0 (fun i => qCt rs i * g i) := by
  intro rs
  induction rs with
  | nil =>
    intro _
    simp only [qCt, Int.zero_mul, qRm]
    exact (qSm_zero n 0).symm
  | cons x t ih =>
    intro h
    have e : (fun i : Nat => qCt (x :: t) i * g i) = fun i : Nat => (if x = i then g i else 0) + qCt t i * g i := by
      funext i
      simp only [qCt]
      split
      · rw [Int.add_mul, Int.one_mul]
      · rw [Int.add_mul, Int.zero_mul]
    rw [e, qSm_add, qSm_delta g x n 0, ← ih (fun y hy => h y (List.mem_cons_of_mem _ hy))]
    simp only [qRm]
    rcases h x List.mem_cons_self with h9 | h9
    · rw [if_pos h9, if_neg (by omega)]
    · rw [if_neg (by omega), if_pos (by omega)]
theorem qRm_sm (g : Int → Int) (rs : List Int) : qSm rs.length 0 (fun i => if qAt rs i = -9 then 0 else g (qAt rs i)) = qRm g rs := qSm_list0 rs (fun x => if x = -9 then 0 else g x) rfl (fun _ _ => rfl)
theorem qGf_ub {a : qAS} (hl : qMl a) (s : Int) : (qGf a.2.1 s).length ≤ 20 := hl.2.2.1 s
theorem qHas_iff (a : qAS) (i : Int) (hi : ¬ (0 ≤ i ∧ i < a.2.2.2.length)) : qAt (qRs a) i = -9 := by
  unfold qAt
  rw [qRs_len, if_neg hi]
end S26
section S27
variable {m : Nat → Int → Int} {r : Nat → Int → Option Nat}
def qRk (a : qAS) : Prop := ∀ i : Int, qAt (qRs a) i = -9 ∨ (0 ≤ qAt (qRs a) i ∧ qAt (qRs a) i < a.2.1.length)
theorem qRk_of {a : qAS} (h : qWA a) : qRk a := qWA_rs h
theorem qRk_mem {a : qAS} (h : qRk a) : ∀ x ∈ qRs a, x = -9 ∨ (0 ≤ x ∧ x < a.2.1.length) := by
  intro x hx
  obtain ⟨i, hi, rfl⟩ := List.getElem_of_mem hx
  have := h i
  rw [qAt_lt hi] at this
  exact this
end S27
section S28
variable {m : Nat → Int → Int} {r : Nat → Int → Option Nat}
theorem qNe_rm (rs : List Int) : qNe rs = qRm (fun _ => 1) rs := by
  induction rs with
  | nil => rfl
  | cons x t ih =>
    simp only [qNe, qRm]
    rw [ih]
    by_cases hx : x = -9
    · rw [if_neg (fun e => e hx), if_pos hx]
    · rw [if_pos hx, if_neg hx]
theorem qLp_none (fs : List Int) (p : Int) : ∀ a, 0 ≤ a → (qLp fs p a = -9 ↔ ¬ p ∈ fs) := by
  induction fs with
  | nil => intro a _; simp [qLp]
  | cons f t ih =>
    intro a ha
    simp only [qLp]
    by_cases h : f = p
    · rw [if_pos h]
      subst h
      simp
      omega
    · rw [if_neg h, ih _ (by split <;> omega)]
      simp only [List.mem_cons, not_or]
      exact ⟨fun e => ⟨fun e2 => h e2.symm, e⟩, fun e => e.2⟩
def qRv (a : qAS) : Prop := ∀ i : Int, qAt (qRs a) i ≠ -9 → ((qGet a i).2.length : Int) = qLv (qFr' a i) ∧ ∀ j : Int, 0 ≤ j → j < qLv (qFr' a i) → 0 ≤ qVv a i j ∧ qVv a i j ≤ 999
theorem qRv_of {a : qAS} (h : qWA a) : qRv a := by
  intro i h9
  obtain ⟨h0, h1⟩ := qHas_lt h9
  obtain ⟨i, rfl⟩ : ∃ y : Nat, i = y := ⟨i.toNat, by omega⟩
  obtain ⟨g1, g2⟩ := qWA_val h (i := i) (by omega) h9
  refine ⟨?_, fun j hj0 hj1 => ?_⟩
  · rw [qGet_at (by omega)]
    exact g1
  · obtain ⟨j, rfl⟩ : ∃ y : Nat, j = y := ⟨j.toNat, by omega⟩
    exact g2 j hj1
def qOver (a : qAS) (p x : Int) (i : Nat) : Int := if qAt (qRs a) i = -9 then 0 else if x = 5 then (if a.2.2.1 ≤ qCt (qRs a) (qAt (qRs a) i) then (if qLp (qFr' a i) p 0 = -9 then 0 else 1) else ((qFr' a i).length : Int)) else if x = 3 then (if (100 + p) ∈ (qFr' a i) then 1 else 0) else if qLp (qFr' a i) p 0 = -9 then 0 else if x = 2 then 1 else qVv a i (qLp (qFr' a i) p 0)
end S28
section S30
variable {m : Nat → Int → Int} {r : Nat → Int → Option Nat}
theorem fPath_bad {w : qWd} {p x : Int} (h : ¬ (0 ≤ p ∧ p < w.1.1.length) ∨ x < 0 ∨ 5 < x) : fPath w p x = -1 := by
  unfold fPath
  by_cases hp : 0 ≤ p ∧ p < w.1.1.length
  · rw [if_neg (fun e => e hp), if_neg (by omega), if_neg (by omega), if_neg (by omega), if_neg (by omega), if_neg (by omega), if_neg (by omega)]
  · rw [if_pos hp]
theorem fPath_0 {w : qWd} {p : Int} (hp : 0 ≤ p ∧ p < w.1.1.length) : fPath w p 0 = qLe w.1.1 p := by
  unfold fPath
  rw [if_neg (fun e => e hp), if_pos rfl]
theorem fPath_1 {w : qWd} {p : Int} (hp : 0 ≤ p ∧ p < w.1.1.length) : fPath w p 1 = qOu w.1.1 p := by
  unfold fPath
  rw [if_neg (fun e => e hp), if_neg (by decide), if_pos rfl]
theorem qOver_rm {a : qAS} (hR : qRk a) {p x : Int} (g : Int → Int) (e : ∀ i : Nat, qAt (qRs a) i ≠ -9 → qOver a p x i = g (qAt (qRs a) i)) : qSm a.2.2.2.length 0 (qOver a p x) = qSm a.2.1.length 0 (fun i => qCt (qRs a) i * g i) := by
  rw [← qRm_ex g a.2.1.length (qRs a) (qRk_mem hR), ← qRm_sm g (qRs a), qRs_len]
  refine qSm_congr _ _ (fun j _ _ => ?_)
  by_cases h9 : qAt (qRs a) j = -9
  · rw [if_pos h9]
    unfold qOver
    rw [if_pos h9]
  · rw [if_neg h9]
    exact e j h9
theorem fPath_o {w : qWd} (hR : qRk w.1) {p x : Int} (hp : 0 ≤ p ∧ p < w.1.1.length) (hx : 2 ≤ x ∧ x ≤ 5) : qSm w.1.2.2.2.length 0 (qOver w.1 p x) = fPath w p x := by
  unfold fPath
  rw [if_neg (fun e => e hp), if_neg (by omega), if_neg (by omega)]
  by_cases c2 : x = 2
  · subst c2
    rw [if_pos rfl, qOver_rm hR (fun y => if qLp (qGf w.1.2.1 y) p 0 = -9 then 0 else 1) (fun i h9 => by
      unfold qOver
      rw [if_neg h9, if_neg (by decide), if_neg (by decide)]
      by_cases hl : qLp (qFr' w.1 i) p 0 = -9
      · rw [if_pos hl]; exact (if_pos hl).symm
      · rw [if_neg hl, if_pos rfl]; exact (if_neg hl).symm)]
    refine qSm_congr _ _ (fun j _ _ => ?_)
    have hn := qLp_none (qGf w.1.2.1 (j : Int)) p 0 (Int.le_refl _)
    by_cases hm : p ∈ qGf w.1.2.1 (j : Int)
    · rw [if_neg (fun e => hn.mp e hm), if_pos (List.contains_iff_mem.mpr hm), Int.mul_one]
    · rw [if_pos (hn.mpr hm), if_neg (fun e => hm (List.contains_iff_mem.mp e)), Int.mul_zero]
  rw [if_neg c2]
  by_cases c3 : x = 3
  · subst c3
    rw [if_pos rfl, qOver_rm hR (fun y => if (100 + p) ∈ qGf w.1.2.1 y then 1 else 0) (fun i h9 => by
      unfold qOver
      rw [if_neg h9, if_neg (by decide), if_pos rfl]
      rfl)]
    refine qSm_congr _ _ (fun j _ _ => ?_)
    by_cases hm : (100 + p) ∈ qGf w.1.2.1 (j : Int)
    · rw [if_pos hm, if_pos (List.contains_iff_mem.mpr hm), Int.mul_one]
    · rw [if_neg hm, if_neg (fun e => hm (List.contains_iff_mem.mp e)), Int.mul_zero]
  rw [if_neg c3]
  by_cases c4 : x = 4
  · subst c4
    rw [if_pos rfl]
    unfold qSopA
    refine qSm_congr _ _ (fun j _ _ => ?_)
    unfold qOver
    by_cases h9 : qAt (qRs w.1) j = -9
    · rw [if_pos h9, if_pos]
      unfold qFr'
      rw [h9, qGf_out (by omega)]
      rfl
    · rw [if_neg h9, if_neg (by decide), if_neg (by decide)]
      by_cases hl : qLp (qFr' w.1 j) p 0 = -9
      · rw [if_pos hl, if_pos hl]
      · rw [if_neg hl, if_neg (by decide), if_neg hl]
  rw [if_neg c4]
  have c5 : x = 5 := by omega
  subst c5
  rw [if_pos rfl, qOver_rm hR (fun y => if w.1.2.2.1 ≤ qCt (qRs w.1) y then (if qLp (qGf w.1.2.1 y) p 0 = -9 then 0 else 1) else ((qGf w.1.2.1 y).length : Int)) (fun i h9 => by
      unfold qOver
      rw [if_neg h9, if_pos rfl]
      rfl)]
  refine qSm_congr _ _ (fun j _ _ => ?_)
  have hn := qLp_none (qGf w.1.2.1 (j : Int)) p 0 (Int.le_refl _)
  by_cases hb : w.1.2.2.1 ≤ qCt (qRs w.1) j
  · rw [if_pos hb, if_pos hb]
    by_cases hm : p ∈ qGf w.1.2.1 (j : Int)
    · rw [if_neg (fun e => hn.mp e hm), if_pos (List.contains_iff_mem.mpr hm), Int.mul_one]
    · rw [if_pos (hn.mpr hm), if_neg (fun e => hm (List.contains_iff_mem.mp e)), Int.mul_zero]
  · rw [if_neg hb, if_neg hb]
end S30
section S31
variable {m : Nat → Int → Int} {r : Nat → Int → Option Nat}
theorem qClo_n {ps : List (Int × Int)} (t : Int) : ∀ (n : Nat) (u : Int), (qClo ps n u t).1.length ≤ n ∧ (qIn ps n u t → (qClo ps n u t).2 = t) := by
  intro n
  induction n with
  | zero => intro u; exact ⟨Nat.le_refl _, fun h => h⟩
  | succ n ih =>
    intro u
    simp only [qClo]
    have h1 := ih (qOu ps u)
    split
    · rename_i e
      exact ⟨Nat.zero_le _, fun _ => e⟩
    · rename_i e
      refine ⟨by simp only [List.length_cons]; omega, fun h => h1.2 ?_⟩
      rcases h with h | h
      · exact absurd h e
      · exact h.2
end S31
section S32
variable {m : Nat → Int → Int} {r : Nat → Int → Option Nat}
theorem qClo_all {ps : List (Int × Int)} (t : Int) : ∀ (n : Nat) (u : Int), ∀ c ∈ (qClo ps n u t).1, c = 125 := by
  intro n
  induction n with
  | zero => intro u c hc; simp [qClo] at hc
  | succ n ih =>
    intro u c hc
    simp only [qClo] at hc
    split at hc
    · simp at hc
    · rcases List.mem_cons.mp hc with hc | hc
      · exact hc
      · exact ih _ c hc
theorem qLa_app (l k : List Int) (c : Int) : qAt (l ++ k ++ [c]) ((l ++ k ++ [c]).length - 1) = c := by
  have e : ((l ++ k ++ [c]).length : Int) - 1 = ((l ++ k).length : Nat) := by rw [List.length_append (as := l ++ k)]; simp
  rw [e, qAt_lt (by rw [List.length_append (as := l ++ k)]; simp)]
  simp
theorem qLa_all (l k : List Int) (c : Int) (hk : k ≠ []) (ha : ∀ y ∈ k, y ≠ c) : qAt (l ++ k) ((l ++ k).length - 1) ≠ c := by
  have hl : 0 < k.length := List.length_pos_iff.mpr hk
  have e : ((l ++ k).length : Int) - 1 = ((l.length + (k.length - 1) : Nat) : Int) := by rw [List.length_append]; omega
  rw [e, qAt_lt (by rw [List.length_append]; omega), List.getElem_append_right (by omega)]
  exact ha _ (List.getElem_mem _)
theorem qNum_all {v : Int} (hv : 0 ≤ v ∧ v ≤ 999) : ∀ c ∈ qNum v, c ≠ 123 := by
  intro c hc
  unfold qNum at hc
  rcases List.mem_append.mp hc with hc | hc
  · split at hc
    · rcases List.mem_singleton.mp hc with rfl
      omega
    · simp at hc
  · rcases List.mem_append.mp hc with hc | hc
    · split at hc
      · rcases List.mem_singleton.mp hc with rfl
        omega
      · simp at hc
    · rcases List.mem_singleton.mp hc with rfl
      omega
theorem qNum_nn (v : Int) : qNum v ≠ [] := by
  unfold qNum
  simp
end S32
section S33
variable {m : Nat → Int → Int} {r : Nat → Int → Option Nat}
theorem fRecord_bad {w : qWd} {i x : Int} (h : qAt (qRs w.1) i = -9 ∨ x < 0 ∨ 4 < x) : fRecord w i x = -1 := by
  unfold fRecord
  by_cases h9 : qAt (qRs w.1) i = -9
  · rw [if_pos h9]
  · rw [if_neg h9, if_neg (by omega), if_neg (by omega), if_neg (by omega), if_neg (by omega), if_neg (by omega)]
theorem fShape_bad {w : qWd} {s x : Int} (h : ¬ (0 ≤ s ∧ s < w.1.2.1.length) ∨ x < 0 ∨ 4 < x) : fShape w s x = -1 := by
  unfold fShape
  by_cases h9 : 0 ≤ s ∧ s < w.1.2.1.length
  · rw [if_neg (fun e => e h9), if_neg (by omega), if_neg (by omega), if_neg (by omega), if_neg (by omega), if_neg (by omega)]
  · rw [if_pos h9]
end S33
section S35
variable {m : Nat → Int → Int} {r : Nat → Int → Option Nat}
theorem qGet_set (a : qAS) (i : Nat) (k : Int) (e : Int × List Int) (hk : 0 ≤ k) (hi : i < a.2.2.2.length) : qGet (qRc a (a.2.2.2.set i e)) k = if k = i then e else qGet a k := by
  unfold qGet
  show (a.2.2.2.set i e).getD k.toNat (-9, []) = _
  rw [List.getD_eq_getElem?_getD]
  by_cases h : k = i
  · subst h
    rw [if_pos rfl, Int.toNat_natCast, List.getElem?_set_self hi]
    rfl
  · rw [if_neg h, List.getElem?_set_ne (by omega), List.getD_eq_getElem?_getD]
theorem qVv_get (a : qAS) (i lf : Int) : qVv a i lf = (qGet a i).2.getD lf.toNat 0 := rfl
theorem qGet_1 (a : qAS) {i : Nat} (hi : i < a.2.2.2.length) : (qGet a i).1 = qAt (qRs a) i := by rw [qGet_at hi, qRs_at a hi]
end S35
section S36
variable {m : Nat → Int → Int} {r : Nat → Int → Option Nat}
def qPth (ps : List (Int × Int)) : Prop := ∀ p : Int, qOu ps p = -9 ∨ (0 ≤ qOu ps p ∧ qOu ps p < ps.length)
theorem qPth_of {ps : List (Int × Int)} (h : qWp ps) : qPth ps := fun p => by
  have := qOu_rng h p
  omega
theorem qDp_in' {ps : List (Int × Int)} (h9 : qOu ps (-9) = -9) : ∀ (n : Nat) (u t : Int), qDp ps n u → qIn ps n u t → qDp ps n t := by
  intro n
  induction n with
  | zero =>
    intro u t h1 h2
    have e : u = t := h2
    exact e ▸ h1
  | succ n ih =>
    intro u t h1 h2
    rcases h2 with h2 | ⟨h2, h3⟩
    · exact h2 ▸ h1
    · have h4 := ih _ _ (h1.resolve_left h2) h3
      exact qDp_mono n (n + 1) t (by omega) h4
theorem qNs_dp {ps : List (Int × Int)} (h9 : qOu ps (-9) = -9) : ∀ (fs : List Int) (u : Int), qDp ps 3 u → qNs ps fs u → ∀ f ∈ fs, qDp ps 4 (qPa f) := by
  intro fs
  induction fs with
  | nil => intro u _ _ f hf; simp at hf
  | cons g t ih =>
    intro u hu hn f hf
    obtain ⟨n1, n2, n3⟩ := hn
    have ho := qDp_in' h9 3 u _ hu n1
    rcases List.mem_cons.mp hf with e | hf
    · rw [e]
      exact Or.inr ho
    · refine ih _ ?_ n3 f hf
      split
      · rename_i e
        exact n2 e
      · exact ho
theorem qGf_at {ss : List (List Int)} {s : Nat} (h : s < ss.length) : qGf ss s = ss[s] := by
  unfold qGf
  rw [if_pos ⟨by omega, by omega⟩, Int.toNat_natCast, List.getD_eq_getElem?_getD, List.getElem?_eq_getElem h]
  rfl
theorem qGf_app {ss : List (List Int)} {fs : List Int} {s : Int} (h : 0 ≤ s ∧ s < ss.length) : qGf (ss ++ [fs]) s = qGf ss s := by
  unfold qGf
  rw [List.length_append, if_pos ⟨h.1, by omega⟩, if_pos h, List.getD_eq_getElem?_getD, List.getElem?_append_left (by omega), ← List.getD_eq_getElem?_getD]
theorem qGf_last {ss : List (List Int)} {fs : List Int} : qGf (ss ++ [fs]) ss.length = fs := by
  unfold qGf
  rw [List.length_append, if_pos ⟨by omega, by simp only [List.length_cons, List.length_nil]; omega⟩, Int.toNat_natCast, List.getD_eq_getElem?_getD, List.getElem?_append_right (Nat.le_refl _), Nat.sub_self]
  rfl
end S36
section S37
variable {m : Nat → Int → Int} {r : Nat → Int → Option Nat}
theorem qRes_le (ps : List (Int × Int)) (d : Int) (fs : List Int) : (qRes ps d fs).length ≤ fs.length := List.length_filter_le _ _
theorem qDl_le (ps : List (Int × Int)) (d : Int) : ∀ (fs V : List Int), ((qDl ps d fs V).length : Int) ≤ qLv fs := by
  intro fs
  induction fs with
  | nil => intro V; simp [qDl, qLv]
  | cons f t ih =>
    intro V
    simp only [qDl, qLv]
    split
    · rw [if_neg (by omega), Int.zero_add]
      exact ih V
    · have := ih V.tail
      have e : (if f < 100 then (1 : Int) else 0) = 1 := if_pos (by omega)
      rw [e, List.length_append]
      split <;> simp only [List.length_cons, List.length_nil] <;> omega
theorem qRes_cons (ps : List (Int × Int)) (d f : Int) (t : List Int) : qRes ps d (f :: t) = (if qWi ps 4 (qPa f) d = true then [] else [f]) ++ qRes ps d t := by
  unfold qRes
  rw [List.filter_cons]
  by_cases h : qWi ps 4 (qPa f) d = true
  · rw [if_pos h, h]
    rfl
  · rw [if_neg h]
    have h2 : qWi ps 4 (qPa f) d = false := by
      cases hq : qWi ps 4 (qPa f) d
      · rfl
      · exact absurd hq h
    rw [h2]
    rfl
end S37
section S40
variable {m : Nat → Int → Int} {r : Nat → Int → Option Nat}
theorem qTk_d2 {ps : List (Int × Int)} {fs ns : List Int} {lv op nm c : Int} (h : qDig c = true) : qTk (ps, fs, ns, 5, lv, op, nm) c = qDg2 (ps, fs, ns, 5, lv, op, nm) c := by
  have h2 := of_decide_eq_true h
  unfold qTk
  dsimp only
  rw [if_neg (by omega), if_neg (by decide), if_neg (by decide), if_neg (by decide), if_neg (by decide), if_neg (by decide), if_pos rfl, if_pos h]
theorem qTk_d1 {ps : List (Int × Int)} {fs ns : List Int} {lv op nm c : Int} (h : qDig c = true) : qTk (ps, fs, ns, 4, lv, op, nm) c = qDg1 (ps, fs, ns, 4, lv, op, nm) c := by
  have h2 := of_decide_eq_true h
  unfold qTk
  dsimp only
  rw [if_neg (by omega), if_neg (by decide), if_neg (by decide), if_neg (by decide), if_neg (by decide), if_pos rfl, if_pos h]
theorem qLst (l : List Int) (v : Int) : qAt (l ++ [v]) ((l ++ [v]).length - 1) = v := by
  have := qLa_app l [] v
  rw [List.append_nil] at this
  exact this
theorem qLset (l : List Int) (v x : Int) : (l ++ [v]).set ((l ++ [v]).length - 1) x = l ++ [x] := by
  rw [List.length_append, List.set_append_right (h := by simp)]
  simp
theorem qGo_y {c : Int} {t : List Int} {s s' : qRd} {a : Nat} (h : qTk s c = (true, s')) : qGo (c :: t) s a = qGo t s' (a + 1) := by
  simp only [qGo]
  rw [h]
  exact if_pos rfl
theorem qGo_n {c : Int} {t : List Int} {s s' : qRd} {a : Nat} (h : qTk s c = (false, s')) : qGo (c :: t) s a = (a, s') := by
  simp only [qGo]
  rw [h]
  exact if_neg (fun e => Bool.noConfusion e)
end S40
section S42
variable {m : Nat → Int → Int} {r : Nat → Int → Option Nat}
theorem qNd_inj {α : Type} {l : List α} (h : l.Nodup) {i j : Nat} (hi : i < l.length) (hj : j < l.length) (e : l[i] = l[j]) : i = j := by
  rcases Nat.lt_trichotomy i j with g | g | g
  · exact absurd e (List.pairwise_iff_getElem.mp h i j hi hj g)
  · exact g
  · exact absurd e.symm (List.pairwise_iff_getElem.mp h j i hj hi g)
variable {n0 i : Nat} {ps : List (Int × Int)} {fs ns : List Int} {st lv op nm c : Int}
theorem qRJ_facts (hJ : qRJ i (ps, fs, ns, st, lv, op, nm)) (hi : i ≤ 80) : (0 ≤ st ∧ st ≤ 7) ∧ (0 ≤ lv ∧ lv ≤ 4) ∧ (st = 0 → lv = 0 ∧ fs = [] ∧ op = -9) ∧ (1 ≤ st → st ≤ 6 → 1 ≤ lv) ∧ fs.length ≤ 20 ∧ ps.length ≤ 81 ∧ ((st = 3 ∨ st = 4) → 0 ≤ nm ∧ nm < ps.length ∧ qOu ps nm = op) := by
  obtain ⟨-, -, -, -, -, -, -, -, h9⟩ := hJ
  dsimp only at h9
  rcases h9 with h9 | h9 | h9 | h9 | h9 | h9 | h9
  · obtain ⟨a, b, c, d, e⟩ := h9
    subst c
    refine ⟨by omega, by omega, fun _ => ⟨b, rfl, d⟩, by omega, Nat.zero_le _, by omega, by omega⟩
  · obtain ⟨a, b, c, d, e⟩ := h9
    refine ⟨by omega, by omega, by omega, by omega, by omega, by omega, by omega⟩
  · obtain ⟨a, b, c, d, e⟩ := h9
    refine ⟨by omega, by omega, by omega, by omega, by omega, by omega, by omega⟩
  · obtain ⟨a, b, c, d, e, f1, f2, f3, f4⟩ := h9
    refine ⟨by omega, by omega, by omega, by omega, by omega, by omega, fun _ => ⟨f1, f2, f4⟩⟩
  · obtain ⟨a, b, c, d, e, f1, f2, f3, f4⟩ := h9
    refine ⟨by omega, by omega, by omega, by omega, by omega, by omega, fun _ => ⟨f1, f2, f4⟩⟩
  · obtain ⟨a, b, c, d, e⟩ := h9
    refine ⟨by omega, by omega, by omega, by omega, by omega, by omega, by omega⟩
  · obtain ⟨a, b, c, d, e⟩ := h9
    refine ⟨by omega, by omega, by omega, by omega, by omega, by omega, by omega⟩
theorem qTk_sp (s : qRd) : qTk s 32 = (true, qSpc s) := by
  unfold qTk
  rw [if_pos rfl]
theorem qTk_o0 (h : lv < 4) : qTk (ps, fs, ns, 0, lv, op, nm) 123 = (true, (ps, fs, ns, 1, lv + 1, -9, nm)) := by
  unfold qTk
  dsimp only
  rw [if_neg (by decide), if_pos rfl]
  dsimp only [qOpn]
  rw [if_neg (by omega), if_pos rfl]
theorem qTk_o4 (h : lv < 4) (hn : 0 ≤ nm) : qTk (ps, fs, ns, 4, lv, op, nm) 123 = (true, (ps, fs ++ [100 + nm], ns, 1, lv + 1, nm, nm)) := by
  unfold qTk
  dsimp only
  rw [if_neg (by decide), if_neg (by decide), if_neg (by decide), if_neg (by decide), if_neg (by decide), if_pos rfl, if_neg (by decide)]
  dsimp only [qOpn]
  rw [if_neg (by omega), if_neg (by omega)]
theorem qTk_cl (h : st = 1 ∨ st = 5 ∨ st = 6) : qTk (ps, fs, ns, st, lv, op, nm) 125 = (true, (qCls (ps, fs, ns, st, lv, op, nm)).2) := by
  unfold qTk
  dsimp only
  rcases h with rfl | rfl | rfl
  · rw [if_neg (by decide), if_neg (by decide), if_pos rfl, if_pos rfl]
    rfl
  · rw [if_neg (by decide), if_neg (by decide), if_neg (by decide), if_neg (by decide), if_neg (by decide), if_neg (by decide), if_pos rfl, if_neg (by decide)]
    rfl
  · rw [if_neg (by decide), if_neg (by decide), if_neg (by decide), if_neg (by decide), if_neg (by decide), if_neg (by decide), if_neg (by decide), if_pos rfl]
    rfl
theorem qTk_cm (h : st = 5 ∨ st = 6) : qTk (ps, fs, ns, st, lv, op, nm) 44 = (true, (ps, fs, ns, 2, lv, op, nm)) := by
  unfold qTk
  dsimp only
  rcases h with rfl | rfl
  · rw [if_neg (by decide), if_neg (by decide), if_neg (by decide), if_neg (by decide), if_neg (by decide), if_neg (by decide), if_pos rfl, if_neg (by decide)]
    rfl
  · rw [if_neg (by decide), if_neg (by decide), if_neg (by decide), if_neg (by decide), if_neg (by decide), if_neg (by decide), if_neg (by decide), if_pos rfl]
    rfl
theorem qTk_cn : qTk (ps, fs, ns, 3, lv, op, nm) 58 = (true, (ps, fs, ns, 4, lv, op, nm)) := by
  unfold qTk
  dsimp only
  rw [if_neg (by decide), if_neg (by decide), if_neg (by decide), if_neg (by decide), if_pos rfl]
  rfl
theorem qLet_v : qLet (ps, fs, ns, st, lv, op, nm) c = if c < 97 ∨ 122 < c then (false, (ps, fs, ns, st, lv, op, nm)) else (!(fs.contains ((qFi ps c op 0 : Nat) : Int)) && !(fs.contains (100 + ((qFi ps c op 0 : Nat) : Int))), (qAd ps c op, fs, ns, 3, lv, op, ((qFi ps c op 0 : Nat) : Int))) := rfl
theorem qTk_let (h : st = 1 ∨ st = 2) (hc : c ≠ 32) (hc2 : ¬ (st = 1 ∧ c = 125)) : qTk (ps, fs, ns, st, lv, op, nm) c = qLet (ps, fs, ns, st, lv, op, nm) c := by
  unfold qTk
  dsimp only
  rw [if_neg hc]
  rcases h with rfl | rfl
  · rw [if_neg (by decide), if_pos rfl, if_neg (by omega)]
  · rw [if_neg (by decide), if_neg (by decide), if_pos rfl]
end S42
section S44
variable {m : Nat → Int → Int} {r : Nat → Int → Option Nat}
theorem qLo_at {ps : List (Int × Int)} {i : Nat} (h : i < ps.length) : qLe ps i = ps[i].1 ∧ qOu ps i = ps[i].2 := ⟨qLe_at h, qOu_at h⟩
theorem qFi_take {P : List (Int × Int)} (hn : P.Nodup) {f n : Nat} (hf : f < P.length) (hn2 : n ≤ P.length) : qFi (P.take n) (qLe P f) (qOu P f) 0 = if f < n then f else n := by
  have hlo := qLo_at hf
  have hle := qFi_le (P.take n) (qLe P f) (qOu P f) 0
  have hlen : (P.take n).length = n := by rw [List.length_take]; omega
  have hat : ∀ (hlt : qFi (P.take n) (qLe P f) (qOu P f) 0 < n), qFi (P.take n) (qLe P f) (qOu P f) 0 = f := fun hlt => by
    have h1 := qFi_at (qLe P f) (qOu P f) (P.take n) 0 (by omega)
    have h1 : (P.take n).getD (qFi (P.take n) (qLe P f) (qOu P f) 0) (0, 0) = (qLe P f, qOu P f) := h1
    rw [List.getD_eq_getElem?_getD, List.getElem?_take, if_pos hlt, List.getElem?_eq_getElem (by omega)] at h1
    refine qNd_inj hn (by omega) hf ?_
    have h2 : P[qFi (P.take n) (qLe P f) (qOu P f) 0]'(by omega) = (qLe P f, qOu P f) := h1
    rw [h2, hlo.1, hlo.2]
  by_cases hfn : f < n
  · rw [if_pos hfn]
    have hlt : qFi (P.take n) (qLe P f) (qOu P f) 0 < n := by
      by_cases hlt : qFi (P.take n) (qLe P f) (qOu P f) 0 < n
      · exact hlt
      · exfalso
        have hmem : (qLe P f, qOu P f) ∈ P.take n := by
          rw [hlo.1, hlo.2]
          have e : (P.take n)[f]'(by omega) = P[f] := List.getElem_take
          exact e ▸ List.getElem_mem _
        have hn3 := qAd_nd (l := qLe P f) (u := qOu P f) (hn.sublist (List.take_sublist n P))
        unfold qAd at hn3
        rw [if_neg (by omega)] at hn3
        exact (List.nodup_append.mp hn3).2.2 _ hmem _ (List.mem_singleton.mpr rfl) rfl
    exact hat hlt
  · rw [if_neg hfn]
    by_cases hlt : qFi (P.take n) (qLe P f) (qOu P f) 0 < n
    · have := hat hlt
      omega
    · omega
theorem qTake_le (P : List (Int × Int)) (n : Nat) : P.take n <+: P := List.take_prefix n P
end S44
