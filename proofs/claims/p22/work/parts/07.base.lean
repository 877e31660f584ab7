/-! The abstract machine's values and memory against the machine's: relations, and what keeps them -/
def qat (ws : va_W) (k q : Nat) : Prop := ∃ e, ws[k]? = some (q, e)
def qext (ws ws' : va_W) : Prop := ∀ k q, qat ws k q → qat ws' k q
theorem qext_rf {ws : va_W} : qext ws ws := fun _ _ h => h
theorem qext_tr {a b c : va_W} (h : qext a b) (g : qext b c) : qext a c := fun k q x => g k q (h k q x)
theorem qext_app {a b : va_W} : qext a (a ++ b) := by
  rintro k q ⟨e, h⟩
  have hk : k < a.length := (List.getElem?_eq_some_iff.mp h).1
  exact ⟨e, by rw [List.getElem?_append_left hk]; exact h⟩
theorem qext_set {ws : va_W} {k q : Nat} {e e' : va_E} (h : ws[k]? = some (q, e)) : qext ws (ws.set k (q, e')) := by
  rintro i q' ⟨e0, h0⟩
  by_cases hi : k = i
  · subst hi
    rw [h] at h0
    cases h0
    have hk := (List.getElem?_eq_some_iff.mp h).1
    exact ⟨e', by rw [List.getElem?_set_self hk]⟩
  · exact ⟨e0, by rw [List.getElem?_set_ne hi]; exact h0⟩
def qvr (ws : va_W) : qV → Value → Prop
  | .inl x, v => v = .int (Int32.ofInt x) ∧ qin x
  | .inr (.inl k), v => ∃ q, qat ws k q ∧ v = .ref q
  | .inr (.inr x), v => v = .long x
theorem qvr_ext {ws ws' : va_W} (h : qext ws ws') : ∀ {x : qV} {v : Value}, qvr ws x v → qvr ws' x v
  | .inl _, _, g => g
  | .inr (.inl _), _, ⟨q, g1, g2⟩ => ⟨q, h _ _ g1, g2⟩
  | .inr (.inr _), _, g => g
theorem qvr_cat {ws : va_W} : ∀ {x : qV} {v : Value}, qvr ws x v → qn1 (some x) = true → v.category = 1
  | .inl _, _, g, _ => by rw [g.1]; rfl
  | .inr (.inl _), _, ⟨q, _, g2⟩, _ => by rw [g2]; rfl
  | .inr (.inr _), _, _, h => by cases h
theorem qvr_cat2 {ws : va_W} : ∀ {x : qV} {v : Value}, qvr ws x v → v.category ≤ 2
  | .inl _, _, g => by rw [g.1]; exact (by decide : (1 : Nat) ≤ 2)
  | .inr (.inl _), _, ⟨q, _, g2⟩ => by rw [g2]; exact (by decide : (1 : Nat) ≤ 2)
  | .inr (.inr _), _, g => by rw [show _ = _ from g]; exact (by decide : (2 : Nat) ≤ 2)
def qsr (ws : va_W) : List qA → List Value → Prop
  | [], [] => True
  | some x :: S, v :: st => qvr ws x v ∧ qsr ws S st
  | _, _ => False
theorem qsr_ext {ws ws' : va_W} (h : qext ws ws') : ∀ {S : List qA} {st : List Value}, qsr ws S st → qsr ws' S st
  | [], [], _ => trivial
  | some _ :: _, _ :: _, g => ⟨qvr_ext h g.1, qsr_ext h g.2⟩
  | none :: _, _, g => by cases g
  | [], _ :: _, g => by cases g
  | some _ :: _, [], g => by cases g
theorem qsr_len {ws : va_W} : ∀ {S : List qA} {st : List Value}, qsr ws S st → S.length = st.length
  | [], [], _ => rfl
  | some _ :: _, _ :: _, g => by simp [qsr_len g.2]
  | none :: _, _, g => by cases g
  | [], _ :: _, g => by cases g
  | some _ :: _, [], g => by cases g
theorem qsr_cat {ws : va_W} : ∀ {S : List qA} {st : List Value}, qsr ws S st → qnol S = true → ∀ v ∈ st, v.category = 1
  | [], [], _, _ => fun v h => by cases h
  | some x :: S, _ :: _, g, hn => fun v h => by
    have hn : (qn1 (some x) && qnol S) = true := hn
    rw [Bool.and_eq_true] at hn
    rcases List.mem_cons.mp h with rfl | h
    · exact qvr_cat g.1 hn.1
    · exact qsr_cat g.2 hn.2 v h
  | none :: _, _, g, _ => by cases g
  | [], _ :: _, g, _ => by cases g
  | some _ :: _, [], g, _ => by cases g
theorem qsr_cat2 {ws : va_W} : ∀ {S : List qA} {st : List Value}, qsr ws S st → (st.map fun v => v.category).sum ≤ 2 * S.length
  | [], [], _ => by decide
  | some x :: S, v :: st, g => by
    have h1 := qvr_cat2 g.1
    have h2 := qsr_cat2 g.2
    rw [List.map_cons, List.sum_cons, List.length_cons]
    omega
  | none :: _, _, g => by cases g
  | [], _ :: _, g => by cases g
  | some _ :: _, [], g => by cases g
theorem qsr_cons {ws : va_W} {x : qV} {S : List qA} {st : List Value} (h : qsr ws (some x :: S) st) : ∃ v st', st = v :: st' ∧ qvr ws x v ∧ qsr ws S st' := by
  cases st with
  | nil => cases h
  | cons v st' => exact ⟨v, st', rfl, h.1, h.2⟩
theorem qsr_int {ws : va_W} {x : Int} {S : List qA} {st : List Value} (h : qsr ws (qI x :: S) st) : ∃ st', st = .int (Int32.ofInt x) :: st' ∧ qin x ∧ qsr ws S st' := by
  obtain ⟨v, st', rfl, h1, h2⟩ := qsr_cons h
  obtain ⟨rfl, h3⟩ := h1
  exact ⟨st', rfl, h3, h2⟩
theorem qsr_ref {ws : va_W} {k : Nat} {S : List qA} {st : List Value} (h : qsr ws (qK k :: S) st) : ∃ q st', st = .ref q :: st' ∧ qat ws k q ∧ qsr ws S st' := by
  obtain ⟨v, st', rfl, h1, h2⟩ := qsr_cons h
  obtain ⟨q, h3, rfl⟩ := h1
  exact ⟨q, st', rfl, h3, h2⟩
theorem qsr_long {ws : va_W} {x : Int64} {S : List qA} {st : List Value} (h : qsr ws (qJ x :: S) st) : ∃ st', st = .long x :: st' ∧ qsr ws S st' := by
  obtain ⟨v, st', rfl, h1, h2⟩ := qsr_cons h
  exact ⟨st', by rw [show v = _ from h1], h2⟩
theorem qsr_nil {ws : va_W} {st : List Value} (h : qsr ws [] st) : st = [] := by
  cases st with
  | nil => rfl
  | cons v st' => cases h
theorem qsr_app {ws : va_W} : ∀ {S1 S2 : List qA} {s1 s2 : List Value}, qsr ws S1 s1 → qsr ws S2 s2 → qsr ws (S1 ++ S2) (s1 ++ s2)
  | [], _, [], _, _, g => g
  | some _ :: _, _, _ :: _, _, h, g => ⟨h.1, qsr_app h.2 g⟩
  | none :: _, _, _, _, h, _ => by cases h
  | [], _, _ :: _, _, h, _ => by cases h
  | some _ :: _, _, [], _, h, _ => by cases h
theorem qsr_rev {ws : va_W} : ∀ {S : List qA} {st : List Value}, qsr ws S st → qsr ws S.reverse st.reverse
  | [], [], _ => trivial
  | some _ :: _, _ :: _, g => by
    rw [List.reverse_cons, List.reverse_cons]
    exact qsr_app (qsr_rev g.2) ⟨g.1, trivial⟩
  | none :: _, _, g => by cases g
  | [], _ :: _, g => by cases g
  | some _ :: _, [], g => by cases g
theorem qsr_take {ws : va_W} : ∀ {S : List qA} {st : List Value} (n : Nat), qsr ws S st → qsr ws (S.take n) (st.take n)
  | _, _, 0, _ => by simp [qsr]
  | [], [], _ + 1, _ => by simp [qsr]
  | some _ :: _, _ :: _, n + 1, g => by
    rw [List.take_succ_cons, List.take_succ_cons]
    exact ⟨g.1, qsr_take n g.2⟩
  | none :: _, _, _ + 1, g => by cases g
  | [], _ :: _, _ + 1, g => by cases g
  | some _ :: _, [], _ + 1, g => by cases g
theorem qsr_drop {ws : va_W} : ∀ {S : List qA} {st : List Value} (n : Nat), qsr ws S st → qsr ws (S.drop n) (st.drop n)
  | _, _, 0, g => g
  | [], [], _ + 1, _ => by simp [qsr]
  | some _ :: _, _ :: _, n + 1, g => by
    rw [List.drop_succ_cons, List.drop_succ_cons]
    exact qsr_drop n g.2
  | none :: _, _, _ + 1, g => by cases g
  | [], _ :: _, _ + 1, g => by cases g
  | some _ :: _, [], _ + 1, g => by cases g
/-- locals -/
def qlr (k : Nat) (ws : va_W) (L : List qA) (ls : Array Slot) : Prop := ls.size = L.length ∧ lv_wf ls ∧ (∀ (i : Nat) (x : qV), L[i]? = some (some x) → ∃ v, qvr ws x v ∧ ls[i]? = some (.val v)) ∧ ∀ (i : Nat) (x : qV), L[i]? = some (some x) → qn1 (some x) = true ∨ i ∈ qlj k
theorem qlr_ext {k : Nat} {ws ws' : va_W} (h : qext ws ws') {L : List qA} {ls : Array Slot} (g : qlr k ws L ls) : qlr k ws' L ls :=
  ⟨g.1, g.2.1, fun i x hx => by
    obtain ⟨v, h1, h2⟩ := g.2.2.1 i x hx
    exact ⟨v, qvr_ext h h1, h2⟩, g.2.2.2⟩
theorem qnb_ok {k b : Nat} (h : qnb k b = true) {j : Nat} (hj : j ∈ qlj k) : j + 1 ≠ b := by
  have h1 := List.all_eq_true.mp h j hj
  intro e
  simp [e] at h1
def qlv (ls : Array Slot) : List (Nat × Value) := (List.range ls.size).filterMap (fun (i : Nat) => match (ls[i]? : Option Slot) with
  | some (Slot.val v) => some (i, v)
  | _ => none)
theorem qlv_mem {ls : Array Slot} {i : Nat} {v : Value} : (i, v) ∈ qlv ls ↔ ls[i]? = some (.val v) := by
  unfold qlv
  rw [List.mem_filterMap]
  constructor
  · rintro ⟨j, -, h⟩
    split at h
    · rename_i w hw
      cases h
      exact hw
    · cases h
  · intro h
    have hi : i < ls.size := (Array.getElem?_eq_some_iff.mp h).1
    exact ⟨i, List.mem_range.mpr hi, by rw [h]⟩
theorem qlv_has {ls : Array Slot} (h : lv_wf ls) : lv_has ls ls.size (qlv ls) := ⟨rfl, h, fun q hq => qlv_mem.mp hq⟩
theorem qlr_set {k : Nat} {ws : va_W} {L : List qA} {ls ls' : Array Slot} {b : Nat} {x : qV} {v : Value} (h : qlr k ws L ls) (hv : qvr ws x v) (hx : qn1 (some x) = true) (hb : qnb k b = true) (h' : lv_has ls' ls.size ((b, v) :: (qlv ls).filter (fun q => !(q.1 == b) && !(q.1 + 1 == b && q.2.category == 2)))) : qlr k ws (L.set b (some x)) ls' := by
  refine ⟨by rw [h'.1, h.1, List.length_set], h'.2.1, fun i y hy => ?_, fun i y hy => ?_⟩
  · by_cases hi : b = i
    · subst hi
      have hb : b < L.length := by
        have h9 := (List.getElem?_eq_some_iff.mp hy).1
        rwa [List.length_set] at h9
      rw [List.getElem?_set_self hb] at hy
      cases hy
      exact ⟨v, hv, h'.2.2 (b, v) List.mem_cons_self⟩
    · rw [List.getElem?_set_ne hi] at hy
      obtain ⟨w, h1, h2⟩ := h.2.2.1 i y hy
      refine ⟨w, h1, h'.2.2 (i, w) (List.mem_cons_of_mem _ (List.mem_filter.mpr ⟨qlv_mem.mpr h2, ?_⟩))⟩
      rcases h.2.2.2 i y hy with h3 | h3
      · simp [qvr_cat h1 h3, Ne.symm hi]
      · simp [qnb_ok hb h3, Ne.symm hi]
  · by_cases hi : b = i
    · subst hi
      have hb : b < L.length := by
        have h9 := (List.getElem?_eq_some_iff.mp hy).1
        rwa [List.length_set] at h9
      rw [List.getElem?_set_self hb] at hy
      cases hy
      exact Or.inl hx
    · rw [List.getElem?_set_ne hi] at hy
      exact h.2.2.2 i y hy
theorem qlr_setL {k : Nat} {ws : va_W} {L : List qA} {ls ls' : Array Slot} {b : Nat} {x : Int64} (h : qlr k ws L ls) (hb : qnb k b = true) (hk : b ∈ qlj k) (h' : lv_has ls' ls.size ((b, Value.long x) :: (qlv ls).filter (fun q => !(q.1 == b) && (!(q.1 == b + 1) && !(q.1 + 1 == b && q.2.category == 2))))) : qlr k ws ((L.set b (qJ x)).set (b + 1) none) ls' := by
  have key : ∀ (i : Nat) (y : qV), ((L.set b (qJ x)).set (b + 1) none)[i]? = some (some y) → (i = b ∧ y = .inr (.inr x)) ∨ (i ≠ b ∧ i ≠ b + 1 ∧ L[i]? = some (some y)) := by
    intro i y hy
    by_cases h1 : b + 1 = i
    · subst h1
      have h9 := (List.getElem?_eq_some_iff.mp hy).1
      rw [List.length_set] at h9
      rw [List.getElem?_set_self h9] at hy
      cases hy
    · rw [List.getElem?_set_ne h1] at hy
      by_cases h2 : b = i
      · subst h2
        have h9 := (List.getElem?_eq_some_iff.mp hy).1
        rw [List.length_set] at h9
        rw [List.getElem?_set_self h9] at hy
        cases hy
        exact Or.inl ⟨rfl, rfl⟩
      · rw [List.getElem?_set_ne h2] at hy
        exact Or.inr ⟨Ne.symm h2, Ne.symm h1, hy⟩
  refine ⟨by rw [h'.1, h.1, List.length_set, List.length_set], h'.2.1, fun i y hy => ?_, fun i y hy => ?_⟩
  · rcases key i y hy with ⟨rfl, rfl⟩ | ⟨h1, h2, h3⟩
    · exact ⟨_, rfl, h'.2.2 (i, _) List.mem_cons_self⟩
    · obtain ⟨w, h4, h5⟩ := h.2.2.1 i y h3
      refine ⟨w, h4, h'.2.2 (i, w) (List.mem_cons_of_mem _ (List.mem_filter.mpr ⟨qlv_mem.mpr h5, ?_⟩))⟩
      rcases h.2.2.2 i y h3 with h6 | h6
      · simp [qvr_cat h4 h6, h1, h2]
      · simp [qnb_ok hb h6, h1, h2]
  · rcases key i y hy with ⟨rfl, rfl⟩ | ⟨h1, h2, h3⟩
    · exact Or.inr hk
    · exact h.2.2.2 i y h3
/-- the memory -/
def qrf (ws : va_W) : Option Nat → Option Nat → Prop
  | none, z => z = none
  | some k, z => ∃ q, qat ws k q ∧ z = some q
theorem qrf_ext {ws ws' : va_W} (h : qext ws ws') : ∀ {x z : Option Nat}, qrf ws x z → qrf ws' x z
  | none, _, g => g
  | some _, _, ⟨q, g1, g2⟩ => ⟨q, h _ _ g1, g2⟩
def qcr (ws : va_W) (tys : List (ClassId × FieldType)) (kd : Nat × Nat) (mk : Int → Int) (rk : Int → Option Nat) (e : va_E) : Prop :=
  match kd with
  | (0, ci) => ∃ fs : List Value, e = .inr (ci, fs) ∧ fs.length = (qfs ci).length ∧ (∀ j : Nat, (qfs ci)[j]? = some false → fs[j]? = some (.int (Int32.ofInt (mk j))) ∧ qin (mk j)) ∧ (∀ j : Nat, (qfs ci)[j]? = some true → ∃ z, qrf ws (rk j) z ∧ fs[j]? = some (va_rf z))
  | (1, n) => ∃ (cA : ClassId) (f : Nat → Int32), e = .inl (cA, n, .inl f) ∧ (cA, FieldType.int) ∈ tys ∧ n ≤ 100000 ∧ ∀ j : Nat, j < n → f j = Int32.ofInt (mk j) ∧ qin (mk j)
  | (ci + 2, n) => ∃ (cA : ClassId) (f : Nat → Option Nat), e = .inl (cA, n, .inr (.inr (.inr (.inr f)))) ∧ (cA, FieldType.object (qR ci)) ∈ tys ∧ n ≤ 100000 ∧ ∀ j : Nat, j < n → qrf ws (rk j) (f j)
theorem qcr_ext {ws ws' : va_W} {tys : List (ClassId × FieldType)} {kd : Nat × Nat} {mk : Int → Int} {rk : Int → Option Nat} {e : va_E} (h : qext ws ws') (g : qcr ws tys kd mk rk e) : qcr ws' tys kd mk rk e := by
  unfold qcr at g ⊢
  split at g
  · obtain ⟨fs, h1, h2, h3, h4⟩ := g
    exact ⟨fs, h1, h2, h3, fun j hj => by
      obtain ⟨z, h5, h6⟩ := h4 j hj
      exact ⟨z, qrf_ext h h5, h6⟩⟩
  · exact g
  · obtain ⟨cA, f, h1, h2, h3, h4⟩ := g
    exact ⟨cA, f, h1, h2, h3, fun j hj => qrf_ext h (h4 j hj)⟩
theorem qcr_tys {ws : va_W} {tys tys' : List (ClassId × FieldType)} {kd : Nat × Nat} {mk : Int → Int} {rk : Int → Option Nat} {e : va_E} (h : ∀ x ∈ tys, x ∈ tys') (g : qcr ws tys kd mk rk e) : qcr ws tys' kd mk rk e := by
  unfold qcr at g ⊢
  split at g
  · exact g
  · obtain ⟨cA, f, h1, h2, h3⟩ := g
    exact ⟨cA, f, h1, h _ h2, h3⟩
  · obtain ⟨cA, f, h1, h2, h3⟩ := g
    exact ⟨cA, f, h1, h _ h2, h3⟩
def qhr (ws : va_W) (tys : List (ClassId × FieldType)) (σ : qM) : Prop := ws.length = σ.1.length ∧ ∀ (k : Nat) (kd : Nat × Nat), σ.1[k]? = some kd → ∃ q e, ws[k]? = some (q, e) ∧ qcr ws tys kd (σ.2.1 k) (σ.2.2 k) e
theorem qhr_at {ws : va_W} {tys : List (ClassId × FieldType)} {σ : qM} (h : qhr ws tys σ) {k q : Nat} {kd : Nat × Nat} (hk : σ.1[k]? = some kd) (hq : qat ws k q) : ∃ e, ws[k]? = some (q, e) ∧ qcr ws tys kd (σ.2.1 k) (σ.2.2 k) e := by
  obtain ⟨q', e, h1, h2⟩ := h.2 k kd hk
  obtain ⟨e', h3⟩ := hq
  rw [h1] at h3
  cases h3
  exact ⟨e, h1, h2⟩
theorem qhr_set {ws : va_W} {tys : List (ClassId × FieldType)} {σ σ' : qM} {k q : Nat} {e e' : va_E} {kd : Nat × Nat} (h : qhr ws tys σ) (hk : σ.1[k]? = some kd) (hq : ws[k]? = some (q, e)) (hT : σ'.1 = σ.1) (hm : ∀ a, a ≠ k → σ'.2.1 a = σ.2.1 a ∧ σ'.2.2 a = σ.2.2 a) (hc : qcr (ws.set k (q, e')) tys kd (σ'.2.1 k) (σ'.2.2 k) e') : qhr (ws.set k (q, e')) tys σ' := by
  refine ⟨by rw [List.length_set, hT]; exact h.1, fun i kd' hi => ?_⟩
  rw [hT] at hi
  by_cases hik : k = i
  · subst hik
    rw [hk] at hi
    cases hi
    have hl := (List.getElem?_eq_some_iff.mp hq).1
    exact ⟨q, e', by rw [List.getElem?_set_self hl], hc⟩
  · obtain ⟨q1, e1, h1, h2⟩ := h.2 i kd' hi
    refine ⟨q1, e1, by rw [List.getElem?_set_ne hik]; exact h1, ?_⟩
    rw [(hm i (Ne.symm hik)).1, (hm i (Ne.symm hik)).2]
    exact qcr_ext (qext_set hq) h2
theorem qhr_new {ws : va_W} {tys tys' : List (ClassId × FieldType)} {σ : qM} {q : Nat} {e : va_E} {kd : Nat × Nat} (h : qhr ws tys σ) (ht : ∀ x ∈ tys, x ∈ tys') (hc : qcr (ws ++ [(q, e)]) tys' kd (fun _ => 0) (fun _ => none) e) : qhr (ws ++ [(q, e)]) tys' (qold σ kd) := by
  refine ⟨by simp [qold, h.1], fun i kd' hi => ?_⟩
  by_cases hil : i < σ.1.length
  · have h1 : (qold σ kd).1[i]? = σ.1[i]? := List.getElem?_append_left hil
    rw [h1] at hi
    obtain ⟨q1, e1, h2, h3⟩ := h.2 i kd' hi
    refine ⟨q1, e1, by rw [List.getElem?_append_left (by rw [h.1]; exact hil)]; exact h2, ?_⟩
    have h4 : (qold σ kd).2.1 i = σ.2.1 i := by funext j; simp [qold, qrow, Nat.ne_of_lt hil]
    have h5 : (qold σ kd).2.2 i = σ.2.2 i := by funext j; simp [qold, qrow, Nat.ne_of_lt hil]
    rw [h4, h5]
    exact qcr_ext qext_app (qcr_tys ht h3)
  · have hlt := (List.getElem?_eq_some_iff.mp hi).1
    have hie : i = σ.1.length := by simp [qold] at hlt; omega
    subst hie
    have h1 : (qold σ kd).1[σ.1.length]? = some kd := by simp [qold]
    rw [h1] at hi
    cases hi
    refine ⟨q, e, by rw [← h.1]; simp, ?_⟩
    have h4 : (qold σ kd).2.1 σ.1.length = fun _ => 0 := by funext j; simp [qold, qrow]
    have h5 : (qold σ kd).2.2 σ.1.length = fun _ => none := by funext j; simp [qold, qrow]
    rw [h4, h5]
    exact hc
/-- how much room the cells take -/
def qszk (kd : Nat × Nat) : Nat := match kd with
  | (0, ci) => (qfs ci).length
  | (_, n) => n
def qsz (T : List (Nat × Nat)) : Nat := (T.map qszk).sum
theorem qsz_app (T X : List (Nat × Nat)) : qsz (T ++ X) = qsz T + qsz X := by simp [qsz]
/-- numbers -/
theorem qti {x : Int} (h : qin x) : (Int32.ofInt x).toInt = x := Int32.toInt_ofInt_of_le (by have := h.1; omega) (by have := h.2; omega)
theorem qeq {x y : Int} (hx : qin x) (hy : qin y) : Int32.ofInt x = Int32.ofInt y ↔ x = y := ⟨fun h => by rw [← qti hx, ← qti hy, h], fun h => by rw [h]⟩
theorem qlt {x y : Int} (hx : qin x) (hy : qin y) : Int32.ofInt x < Int32.ofInt y ↔ x < y := by rw [Int32.lt_iff_toInt_lt, qti hx, qti hy]
theorem qle {x y : Int} (hx : qin x) (hy : qin y) : Int32.ofInt x ≤ Int32.ofInt y ↔ x ≤ y := by rw [Int32.le_iff_toInt_le, qti hx, qti hy]
theorem qnI {x : Int} (h : 0 ≤ x) : Int32.ofInt x = nI x.toNat := by
  unfold nI
  rw [← Int32.ofInt_eq_ofNat, Int.toNat_of_nonneg h]
theorem qclamp {x : Int} (h : 0 ≤ x) (h2 : qin x) : (Int32.ofInt x).toNatClampNeg = x.toNat := by
  rw [qnI h]
  exact nI_clamp (by have := h2.2; omega)
theorem qvin {x : Int} {n : Nat} (h : 0 ≤ x) (h2 : x < n) (hn : n ≤ 100000) : vp_in (Int32.ofInt x) n := by
  rw [qnI h]
  exact vp_in_nI (by omega) (by omega)
theorem q0in : qin 0 := by decide
theorem qdiv {x y : Int} (hx : 0 ≤ x) (hy : 0 < y) (hx2 : qin x) (hy2 : qin y) : Int32.ofInt x / Int32.ofInt y = Int32.ofInt (x / y) ∧ qin (x / y) := by
  have h1 : 0 ≤ x / y := Int.ediv_nonneg hx (by omega)
  have h2 : x / y ≤ x := Int.ediv_le_self y hx
  refine ⟨?_, ⟨by omega, by have := hx2.2; omega⟩⟩
  rw [qnI hx, qnI (by omega : 0 ≤ y), qnI h1, pk_div (by have := hx2.2; omega) (by omega) (by have := hy2.2; omega)]
  congr 1
  obtain ⟨a, rfl⟩ : ∃ a : Nat, x = a := ⟨x.toNat, by omega⟩
  obtain ⟨b, rfl⟩ : ∃ b : Nat, y = b := ⟨y.toNat, by omega⟩
  rw [← Int.natCast_ediv]
  rfl
theorem qrem {x y : Int} (hx : 0 ≤ x) (hy : 0 < y) (hx2 : qin x) (hy2 : qin y) : Int32.ofInt x - Int32.ofInt x / Int32.ofInt y * Int32.ofInt y = Int32.ofInt (x % y) ∧ qin (x % y) := by
  have h1 : 0 ≤ x % y := Int.emod_nonneg x (by omega)
  have h2 : x % y < y := Int.emod_lt_of_pos x hy
  refine ⟨?_, ⟨by omega, by have := hy2.2; omega⟩⟩
  rw [qnI hx, qnI (by omega : 0 ≤ y), qnI h1, pk_rem (by have := hx2.2; omega) (by omega) (by have := hy2.2; omega)]
  congr 1
  have := Int.toNat_emod hx (by omega : 0 ≤ y)
  omega
/-- tables -/
theorem qfs_lt {ci j : Nat} {t : Bool} (h : (qfs ci)[j]? = some t) : ci < 8 := by
  by_cases hc : ci < 8
  · exact hc
  · exfalso
    have : qfs ci = [] := by
      by_cases h8 : ci = 8
      · subst h8; rfl
      unfold qfs
      simp [show ∀ k, k < 9 → Nat.beq ci k = false from fun k hk => by
        cases e : Nat.beq ci k with
        | false => rfl
        | true => exact absurd (Nat.eq_of_beq_eq_true e) (by omega), show ∀ k, k < 9 → Nat.ble ci k = false from fun k hk => qble (by omega)]
    rw [this] at h
    simp at h
theorem qvw {ci : Nat} (h : ci < 8) : vwCl[ci]? = some (qR ci, qT ci, (qfs ci).length) := by
  match ci, h with
  | 0, _ => rfl
  | 1, _ => rfl
  | 2, _ => rfl
  | 3, _ => rfl
  | 4, _ => rfl
  | 5, _ => rfl
  | 6, _ => rfl
  | 7, _ => rfl
theorem qu_all {ci : Nat} (h : ci < 8) : ∀ w ∈ u_ws (qR ci) (qT ci) (qfs ci).length, w ∈ qtb := by
  intro w hw
  have h1 : w ∈ lw_tbl := by
    match ci, h with
    | 0, _ => exact qu_0 w hw
    | 1, _ => exact qu_1 w hw
    | 2, _ => exact qu_2 w hw
    | 3, _ => exact qu_3 w hw
    | 4, _ => exact qu_4 w hw
    | 5, _ => exact qu_5 w hw
    | 6, _ => exact qu_6 w hw
    | 7, _ => exact qu_7 w hw
  obtain ⟨k, -, rfl⟩ := List.mem_map.mp hw
  refine qtb_in h1 ?_
  unfold u_lay
  split <;> rfl
theorem qty_all {ci : Nat} (h : ci < 8) : ∀ k, k < (qfs ci).length → parseFieldDescriptor (qT ci k).2.2.1 = some (qty ci k) := by
  match ci, h with
  | 0, _ => exact tyX0_ok
  | 1, _ => exact tyX1_ok
  | 2, _ => exact tyX2_ok
  | 3, _ => exact tyX3_ok
  | 4, _ => exact tyX4_ok
  | 5, _ => exact tyX5_ok
  | 6, _ => exact tyX6_ok
  | 7, _ => exact tyX7_ok
theorem qnm_all {ci : Nat} (h : ci < 8) : ∀ a, a < (qfs ci).length → ∀ b, b < (qfs ci).length → a ≠ b → (qT ci a).2.1 ≠ (qT ci b).2.1 := by
  match ci, h with
  | 0, _ => exact nmX0
  | 1, _ => exact nmX1
  | 2, _ => exact nmX2
  | 3, _ => exact nmX3
  | 4, _ => exact nmX4
  | 5, _ => exact nmX5
  | 6, _ => exact nmX6
  | 7, _ => exact nmX7
def qisr (t : FieldType) : Bool := match t with
  | .object _ => true
  | .array _ => true
  | _ => false
theorem qkind : ∀ ci, ci < 8 → ∀ j, j < 19 → (match (qfs ci)[j]? with
  | some false => decide (qty ci j = .int)
  | some true => qisr (qty ci j)
  | none => true) = true := by decide +kernel
theorem qfs_len : ∀ ci, ci < 8 → (qfs ci).length ≤ 19 := by decide +kernel
theorem qfs_j {ci j : Nat} {t : Bool} (h : (qfs ci)[j]? = some t) : j < (qfs ci).length := (List.getElem?_eq_some_iff.mp h).1
theorem qty_int {ci j : Nat} (h : (qfs ci)[j]? = some false) : qty ci j = .int := by
  have h1 := qkind ci (qfs_lt h) j (Nat.lt_of_lt_of_le (qfs_j h) (qfs_len ci (qfs_lt h)))
  rw [h] at h1
  simpa using h1
theorem qty_ref {ci j : Nat} (h : (qfs ci)[j]? = some true) : (∃ n, qty ci j = .object n) ∨ ∃ t, qty ci j = .array t := by
  have h1 := qkind ci (qfs_lt h) j (Nat.lt_of_lt_of_le (qfs_j h) (qfs_len ci (qfs_lt h)))
  rw [h] at h1
  have h1 : qisr (qty ci j) = true := h1
  cases hq : qty ci j <;> rw [hq] at h1 <;> first | (exact Or.inl ⟨_, rfl⟩) | (exact Or.inr ⟨_, rfl⟩) | (simp [qisr] at h1)
