/-! A drop leaves a well-formed world -/
theorem qIn_9 {ps : List (Int × Int)} : ∀ (k : Nat) (x : Int), qIn ps k (-9) x → x = -9 := by
  intro k x h
  cases k with
  | zero => exact h.symm
  | succ k =>
    rcases h with h | h
    · exact h.symm
    · exact absurd rfl h.1
theorem qIn_cap {ps : List (Int × Int)} : ∀ (n k : Nat) (u x : Int), qDp ps n u → qIn ps k u x → qIn ps n u x := by
  intro n
  induction n with
  | zero =>
    intro k u x hd h
    have e : u = -9 := hd
    subst e
    exact (qIn_9 k x h).symm
  | succ n ih =>
    intro k u x hd h
    by_cases e : u = -9
    · subst e
      exact Or.inl (qIn_9 k x h).symm
    · cases k with
      | zero => exact Or.inl h
      | succ k =>
        rcases h with h | h
        · exact Or.inl h
        · exact Or.inr ⟨e, ih k _ x (hd.resolve_left e) h.2⟩
theorem qIn_tr {ps : List (Int × Int)} {y x : Int} : ∀ (n k : Nat) (u : Int), qDp ps n u → qIn ps n u y → qIn ps k y x → qIn ps n u x := by
  intro n
  induction n with
  | zero =>
    intro k u hd h g
    have e : u = y := h
    subst e
    exact qIn_cap 0 k _ _ hd g
  | succ n ih =>
    intro k u hd h g
    rcases h with h | h
    · subst h
      exact qIn_cap (n + 1) k _ _ hd g
    · exact Or.inr ⟨h.1, ih k _ (hd.resolve_left h.1) h.2 g⟩
/-- within, as a chain -/
theorem qWi_in {ps : List (Int × Int)} {q : Int} (hq : q ≠ -9) : ∀ (n : Nat) (p : Int), qDp ps n p → (qWi ps n p q = true ↔ qIn ps n p q) := by
  intro n
  induction n with
  | zero =>
    intro p hd
    have e : p = -9 := hd
    subst e
    simp only [qWi, qIn]
    exact ⟨fun h => (Bool.noConfusion h), fun h => absurd h.symm hq⟩
  | succ n ih =>
    intro p hd
    simp only [qWi, qIn]
    by_cases e : p = -9
    · rw [if_pos e]
      exact ⟨fun h => (Bool.noConfusion h), fun h => h.elim (fun g => absurd (g.symm.trans e) hq) (fun g => absurd e g.1)⟩
    · rw [if_neg e]
      by_cases e2 : p = q
      · rw [if_pos e2]
        exact ⟨fun _ => Or.inl e2, fun _ => rfl⟩
      · rw [if_neg e2, ih _ (hd.resolve_left e)]
        exact ⟨fun h => Or.inr ⟨e, h⟩, fun h => (h.resolve_left e2).2⟩
theorem qDl_len (ps : List (Int × Int)) (d : Int) : ∀ (fs V : List Int), ((qDl ps d fs V).length : Int) = qLv (qRes ps d fs) := by
  intro fs
  induction fs with
  | nil => intro V; rfl
  | cons f t ih =>
    intro V
    rw [qRes_cons, qLv_app]
    simp only [qDl]
    by_cases h : 100 ≤ f
    · rw [if_pos h, ih]
      split
      · simp [qLv]
      · simp only [qLv]
        rw [if_neg (by omega)]
        omega
    · rw [if_neg h, List.length_append]
      have := ih V.tail
      split
      · simp only [List.length_nil, qLv]
        omega
      · simp only [List.length_cons, List.length_nil, qLv]
        rw [if_pos (by omega)]
        omega
theorem qDl_mem (ps : List (Int × Int)) (d : Int) : ∀ (fs V : List Int), (∀ v ∈ V, 0 ≤ v ∧ v ≤ 999) → ∀ v ∈ qDl ps d fs V, 0 ≤ v ∧ v ≤ 999 := by
  intro fs
  induction fs with
  | nil => intro V _ v hv; simp [qDl] at hv
  | cons f t ih =>
    intro V hV v hv
    simp only [qDl] at hv
    split at hv
    · exact ih V hV v hv
    · rcases List.mem_append.mp hv with g | g
      · split at g
        · simp at g
        · rw [List.mem_singleton.mp g]
          cases V with
          | nil => exact ⟨by decide, by decide⟩
          | cons x X => exact hV x List.mem_cons_self
      · exact ih V.tail (fun x hx => hV x (List.mem_of_mem_tail hx)) v g
theorem qTc_res {ps : List (Int × Int)} {d : Int} (hd : 0 ≤ d) (hq : qPth ps) : ∀ (fs : List Int) (v v' : Int), (∀ f ∈ fs, 0 ≤ f ∧ 0 ≤ qPa f ∧ qPa f < 91 ∧ qDp ps 4 (qPa f)) → (v' = v ∨ ∀ p : Int, 0 ≤ p → qDp ps 4 p → qWi ps 4 p d ≠ true → v ≠ 100 + qOu ps p) → qTc ps (qRes ps d fs) v' ≤ qTc ps fs v := by
  intro fs
  induction fs with
  | nil => intro v v' _ _; exact Nat.le_refl _
  | cons f t ih =>
    intro v v' hf hv
    obtain ⟨f0, f1, f2, f3⟩ := hf f List.mem_cons_self
    have hft := fun g hg => hf g (List.mem_cons_of_mem _ hg)
    rw [qRes_cons]
    by_cases hw : qWi ps 4 (qPa f) d = true
    · rw [if_pos hw, List.nil_append]
      simp only [qTc]
      refine Nat.le_trans (ih f v' hft (Or.inr (fun p p0 pd pw e => ?_))) (Nat.le_add_left _ _)
      -- f is the branch around p, and p is within then
      have hou := hq p
      have hfb : 100 ≤ f := by
        unfold qPa at f2
        split at f2 <;> omega
      have hpf : qPa f = qOu ps p := by
        unfold qPa
        rw [if_pos hfb]
        omega
      have h9 : d ≠ -9 := by omega
      have pd2 : p ≠ -9 := by omega
      refine pw ((qWi_in h9 4 p pd).mpr ?_)
      have hin := (qWi_in h9 4 _ f3).mp hw
      rw [hpf] at hin
      exact Or.inr ⟨pd2, qIn_cap 3 4 _ _ (pd.resolve_left pd2) hin⟩
    · rw [if_neg hw, List.singleton_append]
      simp only [qTc]
      have h2 := ih f f hft (Or.inl rfl)
      have h3 : (if v' = 100 + qOu ps (qPa f) then 2 else 3) ≤ (if v = 100 + qOu ps (qPa f) then 2 else 3) := by
        rcases hv with e | e
        · rw [e]
          exact Nat.le_refl _
        · rw [if_neg (e (qPa f) f1 f3 hw)]
          split <;> omega
      omega
theorem qNs_res {ps : List (Int × Int)} {d : Int} (hd : 0 ≤ d) : ∀ (fs : List Int) (u u' : Int), (∀ f ∈ fs, 0 ≤ qPa f ∧ qDp ps 4 (qPa f)) → qDp ps 3 u → (∀ x : Int, qDp ps 3 x → qWi ps 3 x d ≠ true → qIn ps 3 u x → qIn ps 3 u' x) → qNs ps fs u → qNs ps (qRes ps d fs) u' := by
  intro fs
  induction fs with
  | nil => intro u u' _ _ _ _; exact trivial
  | cons f t ih =>
    intro u u' hf hu hJ hn
    obtain ⟨f1, f3⟩ := hf f List.mem_cons_self
    have hft := fun g hg => hf g (List.mem_cons_of_mem _ hg)
    obtain ⟨n1, n2, n3⟩ := hn
    have h9 : d ≠ -9 := by omega
    have hp9 : qPa f ≠ -9 := by omega
    have hdo : qDp ps 3 (qOu ps (qPa f)) := f3.resolve_left hp9
    have hdn : qDp ps 3 (if 100 ≤ f then qPa f else qOu ps (qPa f)) := by
      split
      · rename_i e
        exact n2 e
      · exact hdo
    rw [qRes_cons]
    by_cases hw : qWi ps 4 (qPa f) d = true
    · rw [if_pos hw, List.nil_append]
      refine ih _ u' hft hdn (fun x hx hxw hin => hJ x hx hxw ?_) n3
      by_cases e : 100 ≤ f
      · rw [if_pos e] at hin
        -- x is above f's branch, for it isn't within d
        rcases hin with hin | hin
        · exfalso
          rw [hin] at hw
          have h4 := (qWi_in h9 4 x (Or.inr (by rw [← hin]; exact hdo))).mp hw
          exact hxw ((qWi_in h9 3 x hx).mpr (qIn_cap 3 4 _ _ hx h4))
        · exact qIn_tr 3 2 u hu n1 hin.2
      · rw [if_neg e] at hin
        exact qIn_tr 3 3 u hu n1 hin
    · rw [if_neg hw, List.singleton_append]
      refine ⟨hJ _ hdo (fun g => hw ?_) n1, n2, ih _ _ hft hdn (fun x _ _ hin => hin) n3⟩
      exact (qWi_in h9 4 _ f3).mpr (Or.inr ⟨hp9, (qWi_in h9 3 _ hdo).mp g⟩)
theorem gDrop_ok {w : qWd} (h : qWN w) (i p : Int) : qWN (gDrop w i p) := by
  unfold gDrop
  by_cases hb : qAt (qRs w.1) i = -9 ∨ ¬ (0 ≤ p ∧ p < w.1.1.length) ∨ (¬ (p ∈ qFr' w.1 i) ∧ ¬ (100 + p ∈ qFr' w.1 i)) ∨ 40 ≤ qDsh w.1 i p
  · rw [if_pos hb]
    exact h
  · rw [if_neg hb]
    have h9 : qAt (qRs w.1) i ≠ -9 := fun e => hb (Or.inl e)
    have hp : 0 ≤ p ∧ p < w.1.1.length := Classical.byContradiction (fun e => hb (Or.inr (Or.inl e)))
    have h40 : qDsh w.1 i p < 40 := by
      by_cases e : 40 ≤ qDsh w.1 i p
      · exact absurd (Or.inr (Or.inr (Or.inr e))) hb
      · omega
    obtain ⟨q1, q2⟩ := qHas_lt h9
    obtain ⟨i, rfl⟩ : ∃ y : Nat, i = y := ⟨i.toNat, by omega⟩
    have hwA := h.1.1
    have hws : qWs w.1.1 (qFr' w.1 i) := qWs_gf hwA _
    obtain ⟨w1, w2, w3, w4, w5⟩ := hws
    obtain ⟨g1, g2, g3, g4, g5, g6⟩ := id hwA
    have hq := qPth_of g1
    have hdp := qNs_dp qPa_neg _ _ (qDp_9 3) w4
    have hdl := qDl_len w.1.1 p (qFr' w.1 i) (qGet w.1 i).2
    have hdl2 := qDl_le w.1.1 p (qFr' w.1 i) (qGet w.1 i).2
    have hrl := qRes_le w.1.1 p (qFr' w.1 i)
    have hsub : ∀ f ∈ qRes w.1.1 p (qFr' w.1 i), f ∈ qFr' w.1 i := fun f hf => (List.mem_filter.mp hf).1
    have htc := qTc_res (ps := w.1.1) (d := p) hp.1 hq (qFr' w.1 i) 91 91 (fun f hf => ⟨(w3 f hf).1, (w3 f hf).2.1, by have := (w3 f hf).2.2; have := g1.1; omega, hdp f hf⟩) (Or.inl rfl)
    have hwr : qWs w.1.1 (qRes w.1.1 p (qFr' w.1 i)) := ⟨by omega, by omega, fun f hf => w3 f (hsub f hf), qNs_res hp.1 _ _ _ (fun f hf => ⟨(w3 f hf).2.1, hdp f hf⟩) (qDp_9 3) (fun _ _ _ g => g) w4, by omega⟩
    have hla := qLs_at (ss := w.1.2.1) (fs := qRes w.1.1 p (qFr' w.1 i))
    have hsh : qDsh w.1 i p = qFs w.1.2.1 (qRes w.1.1 p (qFr' w.1 i)) 0 := rfl
    rw [← hsh] at hla
    have hrc := g6 w.1.2.2.2[i] (List.getElem_mem _)
    have hvv : ∀ v ∈ (qGet w.1 i).2, 0 ≤ v ∧ v ≤ 999 := by
      rw [qGet_at (by omega)]
      rcases hrc.2 with e | e
      · rw [qRs_at w.1 (by omega)] at h9
        exact absurd e h9
      · exact e.2.2.2
    refine qWN_act h (a := aDrop w.1 i p) ⟨g1, qLs_le40 g2 h40, fun gs hgs => ?_, g4, ?_, fun rc hrc2 => ?_⟩ h.2.1 ⟨List.prefix_refl _, qLs_pre _ _ _⟩ h.1.2.2.2.1
    · rcases qLs_mem hgs with e | e
      · exact g3 gs e
      · exact e ▸ hwr
    · show (w.1.2.2.2.set _ _).length ≤ 30
      rw [List.length_set]
      exact g5
    · have hrc3 : rc ∈ w.1.2.2.2.set (i : Int).toNat ((qDsh w.1 i p : Nat), qDl w.1.1 p (qFr' w.1 i) (qGet w.1 i).2) := hrc2
      rcases List.mem_or_eq_of_mem_set hrc3 with e | e
      · exact qWr_ls (g6 rc e)
      · rw [e]
        refine ⟨by dsimp only; omega, Or.inr ⟨by dsimp only; omega, ?_, ?_, qDl_mem _ _ _ _ hvv⟩⟩
        · show ((qDsh w.1 i p : Nat) : Int) < ((qLs w.1.2.1 (qDsh w.1 i p) (qRes w.1.1 p (qFr' w.1 i))).length : Nat)
          have := hla.2
          omega
        · show ((qDl w.1.1 p (qFr' w.1 i) (qGet w.1 i).2).length : Int) = qLv (qGf (qLs w.1.2.1 (qDsh w.1 i p) (qRes w.1.1 p (qFr' w.1 i))) (qDsh w.1 i p : Nat))
          rw [hla.1]
          exact hdl
