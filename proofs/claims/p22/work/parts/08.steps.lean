/-- what the tables say of arrays of references -/
def qAO (U : State) : Prop := ∀ ci : Nat, qao.any (fun q => q.1 == ci) = true → va_AO (qR ci) U
theorem qAO_moved {u U : State} (hvm : u.vm.Alike U.vm) (h : qAO u) : qAO U := fun ci hc => va_AO.moved hvm (h ci hc)
/-- the machine stands in a method of the table -/
def qCtx (p : Program) (s : State) (m : MethodId) (args : Array Value) (meth : Method) (c : Code) (R : Room) (k : Nat) : Prop :=
  k < qN ∧ p.tables.exec = Jvm.exec ∧ c.code = qb k ∧ c.maxLocals = qNl k ∧ s.vm.findClass (qR (qCl k)) = some m.cls ∧ (∀ w ∈ qtb, w.before args s = true) ∧ meth.sig.returnType = qret k ∧ meth.locks = false ∧ meth.name = (qy k).name ∧ (qfr k).1 ≤ R.frames ∧ (qfr k).2 ≤ R.locals ∧ qAO s
/-- the machine's heap holds the abstract memory -/
def qHp (D : va_G) (A : Nat → Prop) (s : State) (ws : va_W) (tys : List (ClassId × FieldType)) (σ : qM) (H : Heap) (locs : List Loc) : Prop := qhr ws tys σ ∧ va_P D vwCl ws H ∧ va_K D vwCl tys s ∧ va_D A ws ∧ va_S A s.heap H locs
theorem qfl_at {k b ci j : Nat} (h : qfl.any (fun q => q.1 == k && q.2.1 == b && q.2.2.1 == ci && q.2.2.2.1 == j) = true) : Cond.fieldLink (qR k) b (qT ci j).1 (qT ci j).2.1 (qT ci j).2.2.1 ∈ qtb := by
  obtain ⟨q, hq, h1⟩ := List.any_eq_true.mp h
  have h2 := List.all_eq_true.mp qfl_ok q hq
  simp only [Bool.and_eq_true, beq_iff_eq] at h1
  obtain ⟨⟨⟨e1, e2⟩, e3⟩, e4⟩ := h1
  rw [e1, e2, e3, e4] at h2
  exact qtb_at (of_decide_eq_true h2) rfl
theorem qcl_at {k b ci : Nat} (h : qcl.any (fun q => q.1 == k && q.2.1 == b && q.2.2.1 == ci) = true) : Cond.classLink (qR k) b (qR ci) ∈ qtb := by
  obtain ⟨q, hq, h1⟩ := List.any_eq_true.mp h
  have h2 := List.all_eq_true.mp qcl_ok q hq
  simp only [Bool.and_eq_true, beq_iff_eq] at h1
  obtain ⟨⟨e1, e2⟩, e3⟩ := h1
  rw [e1, e2, e3] at h2
  exact qtb_at (of_decide_eq_true h2) rfl
theorem qml_at {k b y : Nat} (h : qml.any (fun q => q.1 == k && q.2.1 == b && q.2.2.1 == y) = true) : Cond.methodLink (qR k) b (qy y) ∈ qtb := by
  obtain ⟨q, hq, h1⟩ := List.any_eq_true.mp h
  have h2 := List.all_eq_true.mp qml_ok q hq
  simp only [Bool.and_eq_true, beq_iff_eq] at h1
  obtain ⟨⟨e1, e2⟩, e3⟩ := h1
  rw [e1, e2, e3] at h2
  exact qtb_at (of_decide_eq_true h2) rfl
theorem qmx_at {k b : Nat} (h : qmx.any (fun q => q.1 == k && q.2.1 == b) = true) : Cond.methodLink (qR k) b Lib.Math.max.name ∈ qtb := by
  obtain ⟨q, hq, h1⟩ := List.any_eq_true.mp h
  have h2 := List.all_eq_true.mp qmx_ok q hq
  simp only [Bool.and_eq_true, beq_iff_eq] at h1
  rw [h1.1, h1.2] at h2
  exact qtb_at (of_decide_eq_true h2) rfl
theorem qoi_at {k b : Nat} (h : qoi.any (fun q => q.1 == k && q.2.1 == b) = true) : Cond.methodLink (qR k) b Lib.objectInit ∈ qtb := by
  obtain ⟨q, hq, h1⟩ := List.any_eq_true.mp h
  have h2 := List.all_eq_true.mp qoi_ok q hq
  simp only [Bool.and_eq_true, beq_iff_eq] at h1
  rw [h1.1, h1.2] at h2
  exact qtb_at (of_decide_eq_true h2) rfl
theorem qcp_at {ci : Nat} (h : ci < 9) : (ci < 8 → Cond.instantiable (qR ci) (qfs ci).length ∈ qtb) ∧ Cond.initialized (qR ci) ∈ qtb := by
  have h2 := of_decide_eq_true (List.all_eq_true.mp qcp_ok ci (List.mem_range.mpr h))
  exact ⟨fun h8 => qtb_at (h2.1 h8) rfl, qtb_at h2.2 rfl⟩
theorem qld_at {b : Nat} {a : Int} (h : qld.any (fun q => q.1 == b && q.2.1 == a) = true) : Cond.constant (qR 8) b (Int32.ofInt a) ∈ qtb := by
  obtain ⟨q, hq, h1⟩ := List.any_eq_true.mp h
  have h2 := List.all_eq_true.mp qld_ok q hq
  simp only [Bool.and_eq_true, beq_iff_eq] at h1
  rw [h1.1, h1.2] at h2
  exact qtb_at (of_decide_eq_true h2) rfl
theorem qll_at {b : Nat} {a : Int} (h : qll.any (fun q => q.1 == b && q.2.1 == a) = true) : Cond.constantLong (qR 8) b (Int64.ofInt a) ∈ qtb := by
  obtain ⟨q, hq, h1⟩ := List.any_eq_true.mp h
  have h2 := List.all_eq_true.mp qll_ok q hq
  simp only [Bool.and_eq_true, beq_iff_eq] at h1
  rw [h1.1, h1.2] at h2
  exact qtb_at (of_decide_eq_true h2) rfl
theorem qmem_at {α : Type} {x : α} {l : List α} (h : x ∈ l) : ∃ i : Nat, l[i]? = some x := List.getElem?_of_mem h
theorem qfin4 {b : Nat} (h : b < 4) : ((Fin.ofNat 4 b : Fin 4) : Nat) = b := by simp [Fin.ofNat, Nat.mod_eq_of_lt h]
theorem qsum1 {l : List Value} (h : ∀ v ∈ l, v.category = 1) : (l.map fun v => v.category).sum = l.length := by
  induction l with
  | nil => rfl
  | cons a t ih =>
    rw [List.map_cons, List.sum_cons, h a List.mem_cons_self, ih (fun v hv => h v (List.mem_cons_of_mem _ hv)), List.length_cons]
    omega
theorem qs_0 {p : Program} {l : Launch} {e : Env} {R : Room} {s : State} {m : MethodId} {args : Array Value} {below : List Frame} {meth : Method} {c : Code} {H : Heap} {locs : List Loc} {cells slots : Nat} {Q : State → Prop} {D : va_G} {A : Nat → Prop} {k pc b nx : Nat} {a : Int} {cl : List Nat} {L S : List qA} {σ : qM} {pc' : Nat} {L' S' : List qA} {σ' : qM} {n0 z0 : Nat} {ws : va_W} {tys : List (ClassId × FieldType)} {ls : Array Slot} {st : List Value}
    (hok : qok k pc (0, a, b, cl, nx) = true) (hs : qstep 0 a b cl nx pc L S σ = some (pc', L', S', σ')) (hr1 : σ'.1.length ≤ n0 + R.cells) (hr2 : qsz σ'.1 ≤ z0 + R.slots) (C : qCtx p s m args meth c R k) (Hp : qHp D A s ws tys σ H locs) (hL : qlr k ws L ls) (hS : qsr ws S st) (hc1 : cells + n0 = σ.1.length) (hc2 : slots + z0 = qsz σ.1) (hA : ∀ q, s.heap.size ≤ q → A q) (hNl : L.length = qNl k)
    (kk : ∀ (ws' : va_W) (tys' : List (ClassId × FieldType)) (H' : Heap) (locs' : List Loc) (ls' : Array Slot) (st' : List Value) (cells' slots' : Nat), qext ws ws' → qHp D A s ws' tys' σ' H' locs' → qlr k ws' L' ls' → qsr ws' S' st' → cells' + n0 = σ'.1.length → slots' + z0 = qsz σ'.1 → W p l e R s m args below meth c H' locs' cells' slots' Q (F0 m pc' ls' st')) :
    W p l e R s m args below meth c H locs cells slots Q (F0 m pc ls st) := by
  obtain ⟨hkN, hx, hb, hml, hown, hts, hret, hlk, hnm, hRf, hRl, hAO⟩ := C
  obtain ⟨hh, hP, hK, hD, hSS⟩ := Hp
  simp only [qstep] at hs
  rw [Option.ite_none_right_eq_some] at hs
  obtain ⟨hq, hs⟩ := hs
  simp only [Option.some.injEq, Prod.mk.injEq] at hs
  obtain ⟨rfl, rfl, rfl, rfl⟩ := hs
  simp only [qok, qdec, Bool.and_eq_true, Bool.or_eq_true, decide_eq_true_eq] at hok
  rcases hok with ((⟨h1, h2⟩ | ⟨h1, h2, h3⟩) | ⟨h1, h2, h3⟩) | ⟨⟨h1, h2, h3⟩, h4⟩
  · subst h2
    exact lv_iconst hx hb h1 rfl (kk ws tys H locs ls _ cells slots qext_rf ⟨hh, hP, hK, hD, hSS⟩ hL ⟨⟨rfl, hq⟩, hS⟩ hc1 hc2)
  · subst h2
    exact lv_bipush hx hb h1 h3 (kk ws tys H locs ls _ cells slots qext_rf ⟨hh, hP, hK, hD, hSS⟩ hL ⟨⟨rfl, hq⟩, hS⟩ hc1 hc2)
  · subst h2
    exact lv_sipush hx hb h1 h3 (kk ws tys H locs ls _ cells slots qext_rf ⟨hh, hP, hK, hD, hSS⟩ hL ⟨⟨rfl, hq⟩, hS⟩ hc1 hc2)
  · subst h2
    rw [h3] at hown
    exact lv_ldc hx hb hown (hts _ (qld_at h4)) h1 (kk ws tys H locs ls _ cells slots qext_rf ⟨hh, hP, hK, hD, hSS⟩ hL ⟨⟨rfl, hq⟩, hS⟩ hc1 hc2)
theorem qs_1 {p : Program} {l : Launch} {e : Env} {R : Room} {s : State} {m : MethodId} {args : Array Value} {below : List Frame} {meth : Method} {c : Code} {H : Heap} {locs : List Loc} {cells slots : Nat} {Q : State → Prop} {D : va_G} {A : Nat → Prop} {k pc b nx : Nat} {a : Int} {cl : List Nat} {L S : List qA} {σ : qM} {pc' : Nat} {L' S' : List qA} {σ' : qM} {n0 z0 : Nat} {ws : va_W} {tys : List (ClassId × FieldType)} {ls : Array Slot} {st : List Value}
    (hok : qok k pc (1, a, b, cl, nx) = true) (hs : qstep 1 a b cl nx pc L S σ = some (pc', L', S', σ')) (hr1 : σ'.1.length ≤ n0 + R.cells) (hr2 : qsz σ'.1 ≤ z0 + R.slots) (C : qCtx p s m args meth c R k) (Hp : qHp D A s ws tys σ H locs) (hL : qlr k ws L ls) (hS : qsr ws S st) (hc1 : cells + n0 = σ.1.length) (hc2 : slots + z0 = qsz σ.1) (hA : ∀ q, s.heap.size ≤ q → A q) (hNl : L.length = qNl k)
    (kk : ∀ (ws' : va_W) (tys' : List (ClassId × FieldType)) (H' : Heap) (locs' : List Loc) (ls' : Array Slot) (st' : List Value) (cells' slots' : Nat), qext ws ws' → qHp D A s ws' tys' σ' H' locs' → qlr k ws' L' ls' → qsr ws' S' st' → cells' + n0 = σ'.1.length → slots' + z0 = qsz σ'.1 → W p l e R s m args below meth c H' locs' cells' slots' Q (F0 m pc' ls' st')) :
    W p l e R s m args below meth c H locs cells slots Q (F0 m pc ls st) := by
  obtain ⟨hkN, hx, hb, hml, hown, hts, hret, hlk, hnm, hRf, hRl, hAO⟩ := C
  obtain ⟨hh, hP, hK, hD, hSS⟩ := Hp
  simp only [qstep] at hs
  split at hs <;> first | (cases hs; done) | skip
  rename_i x hx0
  simp only [Option.some.injEq, Prod.mk.injEq] at hs
  obtain ⟨rfl, rfl, rfl, rfl⟩ := hs
  simp only [qok, qdec, Bool.and_eq_true, Bool.or_eq_true, decide_eq_true_eq] at hok
  obtain ⟨v, hv, hl⟩ := hL.2.2.1 b _ hx0
  obtain ⟨rfl, hq⟩ := hv
  rcases hok with ⟨⟨h1, h2⟩, h3⟩ | ⟨h1, h2⟩
  · subst h2
    exact lv_iload_n hx hb h3 (qfin4 h1) hl (kk ws tys H locs ls _ cells slots qext_rf ⟨hh, hP, hK, hD, hSS⟩ hL ⟨⟨rfl, hq⟩, hS⟩ hc1 hc2)
  · subst h2
    exact lv_iload hx hb h1 hl (kk ws tys H locs ls _ cells slots qext_rf ⟨hh, hP, hK, hD, hSS⟩ hL ⟨⟨rfl, hq⟩, hS⟩ hc1 hc2)
theorem qs_2 {p : Program} {l : Launch} {e : Env} {R : Room} {s : State} {m : MethodId} {args : Array Value} {below : List Frame} {meth : Method} {c : Code} {H : Heap} {locs : List Loc} {cells slots : Nat} {Q : State → Prop} {D : va_G} {A : Nat → Prop} {k pc b nx : Nat} {a : Int} {cl : List Nat} {L S : List qA} {σ : qM} {pc' : Nat} {L' S' : List qA} {σ' : qM} {n0 z0 : Nat} {ws : va_W} {tys : List (ClassId × FieldType)} {ls : Array Slot} {st : List Value}
    (hok : qok k pc (2, a, b, cl, nx) = true) (hs : qstep 2 a b cl nx pc L S σ = some (pc', L', S', σ')) (hr1 : σ'.1.length ≤ n0 + R.cells) (hr2 : qsz σ'.1 ≤ z0 + R.slots) (C : qCtx p s m args meth c R k) (Hp : qHp D A s ws tys σ H locs) (hL : qlr k ws L ls) (hS : qsr ws S st) (hc1 : cells + n0 = σ.1.length) (hc2 : slots + z0 = qsz σ.1) (hA : ∀ q, s.heap.size ≤ q → A q) (hNl : L.length = qNl k)
    (kk : ∀ (ws' : va_W) (tys' : List (ClassId × FieldType)) (H' : Heap) (locs' : List Loc) (ls' : Array Slot) (st' : List Value) (cells' slots' : Nat), qext ws ws' → qHp D A s ws' tys' σ' H' locs' → qlr k ws' L' ls' → qsr ws' S' st' → cells' + n0 = σ'.1.length → slots' + z0 = qsz σ'.1 → W p l e R s m args below meth c H' locs' cells' slots' Q (F0 m pc' ls' st')) :
    W p l e R s m args below meth c H locs cells slots Q (F0 m pc ls st) := by
  obtain ⟨hkN, hx, hb, hml, hown, hts, hret, hlk, hnm, hRf, hRl, hAO⟩ := C
  obtain ⟨hh, hP, hK, hD, hSS⟩ := Hp
  simp only [qstep] at hs
  split at hs <;> first | (cases hs; done) | skip
  rename_i x hx0
  simp only [Option.some.injEq, Prod.mk.injEq] at hs
  obtain ⟨rfl, rfl, rfl, rfl⟩ := hs
  simp only [qok, qdec, Bool.and_eq_true, Bool.or_eq_true, decide_eq_true_eq] at hok
  obtain ⟨v, hv, hl⟩ := hL.2.2.1 b _ hx0
  obtain ⟨q, hq, rfl⟩ := hv
  rcases hok with ⟨⟨h1, h2⟩, h3⟩ | ⟨h1, h2⟩
  · subst h2
    exact lv_aload_n hx hb h3 (qfin4 h1) hl (kk ws tys H locs ls _ cells slots qext_rf ⟨hh, hP, hK, hD, hSS⟩ hL ⟨⟨q, hq, rfl⟩, hS⟩ hc1 hc2)
  · subst h2
    exact lv_aload hx hb h1 hl (kk ws tys H locs ls _ cells slots qext_rf ⟨hh, hP, hK, hD, hSS⟩ hL ⟨⟨q, hq, rfl⟩, hS⟩ hc1 hc2)
theorem qs_3 {p : Program} {l : Launch} {e : Env} {R : Room} {s : State} {m : MethodId} {args : Array Value} {below : List Frame} {meth : Method} {c : Code} {H : Heap} {locs : List Loc} {cells slots : Nat} {Q : State → Prop} {D : va_G} {A : Nat → Prop} {k pc b nx : Nat} {a : Int} {cl : List Nat} {L S : List qA} {σ : qM} {pc' : Nat} {L' S' : List qA} {σ' : qM} {n0 z0 : Nat} {ws : va_W} {tys : List (ClassId × FieldType)} {ls : Array Slot} {st : List Value}
    (hok : qok k pc (3, a, b, cl, nx) = true) (hs : qstep 3 a b cl nx pc L S σ = some (pc', L', S', σ')) (hr1 : σ'.1.length ≤ n0 + R.cells) (hr2 : qsz σ'.1 ≤ z0 + R.slots) (C : qCtx p s m args meth c R k) (Hp : qHp D A s ws tys σ H locs) (hL : qlr k ws L ls) (hS : qsr ws S st) (hc1 : cells + n0 = σ.1.length) (hc2 : slots + z0 = qsz σ.1) (hA : ∀ q, s.heap.size ≤ q → A q) (hNl : L.length = qNl k)
    (kk : ∀ (ws' : va_W) (tys' : List (ClassId × FieldType)) (H' : Heap) (locs' : List Loc) (ls' : Array Slot) (st' : List Value) (cells' slots' : Nat), qext ws ws' → qHp D A s ws' tys' σ' H' locs' → qlr k ws' L' ls' → qsr ws' S' st' → cells' + n0 = σ'.1.length → slots' + z0 = qsz σ'.1 → W p l e R s m args below meth c H' locs' cells' slots' Q (F0 m pc' ls' st')) :
    W p l e R s m args below meth c H locs cells slots Q (F0 m pc ls st) := by
  obtain ⟨hkN, hx, hb, hml, hown, hts, hret, hlk, hnm, hRf, hRl, hAO⟩ := C
  obtain ⟨hh, hP, hK, hD, hSS⟩ := Hp
  simp only [qstep] at hs
  split at hs <;> first | (cases hs; done) | skip
  rename_i x S1
  rw [Option.ite_none_right_eq_some] at hs
  obtain ⟨hbl, hs⟩ := hs
  simp only [Option.some.injEq, Prod.mk.injEq] at hs
  obtain ⟨rfl, rfl, rfl, rfl⟩ := hs
  simp only [qok, qdec, Bool.and_eq_true, Bool.or_eq_true, decide_eq_true_eq] at hok
  obtain ⟨st, rfl, hq, hS⟩ := qsr_int hS
  have hbl : b < ls.size := by rw [hL.1]; exact hbl
  obtain ⟨hok, hnb⟩ := hok
  rcases hok with ⟨⟨h1, h2⟩, h3⟩ | ⟨h1, h2⟩
  · subst h2
    exact lv_istore_n hx hb h3 (qfin4 h1) (qlv_has hL.2.1) hbl rfl (fun ls' hl' => kk ws tys H locs ls' _ cells slots qext_rf ⟨hh, hP, hK, hD, hSS⟩ (qlr_set hL ⟨rfl, hq⟩ rfl hnb hl') hS hc1 hc2)
  · subst h2
    exact lv_istore hx hb h1 (qlv_has hL.2.1) hbl rfl (fun ls' hl' => kk ws tys H locs ls' _ cells slots qext_rf ⟨hh, hP, hK, hD, hSS⟩ (qlr_set hL ⟨rfl, hq⟩ rfl hnb hl') hS hc1 hc2)
theorem qs_4 {p : Program} {l : Launch} {e : Env} {R : Room} {s : State} {m : MethodId} {args : Array Value} {below : List Frame} {meth : Method} {c : Code} {H : Heap} {locs : List Loc} {cells slots : Nat} {Q : State → Prop} {D : va_G} {A : Nat → Prop} {k pc b nx : Nat} {a : Int} {cl : List Nat} {L S : List qA} {σ : qM} {pc' : Nat} {L' S' : List qA} {σ' : qM} {n0 z0 : Nat} {ws : va_W} {tys : List (ClassId × FieldType)} {ls : Array Slot} {st : List Value}
    (hok : qok k pc (4, a, b, cl, nx) = true) (hs : qstep 4 a b cl nx pc L S σ = some (pc', L', S', σ')) (hr1 : σ'.1.length ≤ n0 + R.cells) (hr2 : qsz σ'.1 ≤ z0 + R.slots) (C : qCtx p s m args meth c R k) (Hp : qHp D A s ws tys σ H locs) (hL : qlr k ws L ls) (hS : qsr ws S st) (hc1 : cells + n0 = σ.1.length) (hc2 : slots + z0 = qsz σ.1) (hA : ∀ q, s.heap.size ≤ q → A q) (hNl : L.length = qNl k)
    (kk : ∀ (ws' : va_W) (tys' : List (ClassId × FieldType)) (H' : Heap) (locs' : List Loc) (ls' : Array Slot) (st' : List Value) (cells' slots' : Nat), qext ws ws' → qHp D A s ws' tys' σ' H' locs' → qlr k ws' L' ls' → qsr ws' S' st' → cells' + n0 = σ'.1.length → slots' + z0 = qsz σ'.1 → W p l e R s m args below meth c H' locs' cells' slots' Q (F0 m pc' ls' st')) :
    W p l e R s m args below meth c H locs cells slots Q (F0 m pc ls st) := by
  obtain ⟨hkN, hx, hb, hml, hown, hts, hret, hlk, hnm, hRf, hRl, hAO⟩ := C
  obtain ⟨hh, hP, hK, hD, hSS⟩ := Hp
  simp only [qstep] at hs
  split at hs <;> first | (cases hs; done) | skip
  rename_i x S1
  rw [Option.ite_none_right_eq_some] at hs
  obtain ⟨hbl, hs⟩ := hs
  simp only [Option.some.injEq, Prod.mk.injEq] at hs
  obtain ⟨rfl, rfl, rfl, rfl⟩ := hs
  simp only [qok, qdec, Bool.and_eq_true, Bool.or_eq_true, decide_eq_true_eq] at hok
  obtain ⟨q, st, rfl, hq, hS⟩ := qsr_ref hS
  have hbl : b < ls.size := by rw [hL.1]; exact hbl
  obtain ⟨hok, hnb⟩ := hok
  rcases hok with ⟨⟨h1, h2⟩, h3⟩ | ⟨h1, h2⟩
  · subst h2
    exact lv_astore_n hx hb h3 (qfin4 h1) (qlv_has hL.2.1) hbl rfl (fun ls' hl' => kk ws tys H locs ls' _ cells slots qext_rf ⟨hh, hP, hK, hD, hSS⟩ (qlr_set hL ⟨q, hq, rfl⟩ rfl hnb hl') hS hc1 hc2)
  · subst h2
    exact lv_astore hx hb h1 (qlv_has hL.2.1) hbl rfl (fun ls' hl' => kk ws tys H locs ls' _ cells slots qext_rf ⟨hh, hP, hK, hD, hSS⟩ (qlr_set hL ⟨q, hq, rfl⟩ rfl hnb hl') hS hc1 hc2)
theorem qs_5 {p : Program} {l : Launch} {e : Env} {R : Room} {s : State} {m : MethodId} {args : Array Value} {below : List Frame} {meth : Method} {c : Code} {H : Heap} {locs : List Loc} {cells slots : Nat} {Q : State → Prop} {D : va_G} {A : Nat → Prop} {k pc b nx : Nat} {a : Int} {cl : List Nat} {L S : List qA} {σ : qM} {pc' : Nat} {L' S' : List qA} {σ' : qM} {n0 z0 : Nat} {ws : va_W} {tys : List (ClassId × FieldType)} {ls : Array Slot} {st : List Value}
    (hok : qok k pc (5, a, b, cl, nx) = true) (hs : qstep 5 a b cl nx pc L S σ = some (pc', L', S', σ')) (hr1 : σ'.1.length ≤ n0 + R.cells) (hr2 : qsz σ'.1 ≤ z0 + R.slots) (C : qCtx p s m args meth c R k) (Hp : qHp D A s ws tys σ H locs) (hL : qlr k ws L ls) (hS : qsr ws S st) (hc1 : cells + n0 = σ.1.length) (hc2 : slots + z0 = qsz σ.1) (hA : ∀ q, s.heap.size ≤ q → A q) (hNl : L.length = qNl k)
    (kk : ∀ (ws' : va_W) (tys' : List (ClassId × FieldType)) (H' : Heap) (locs' : List Loc) (ls' : Array Slot) (st' : List Value) (cells' slots' : Nat), qext ws ws' → qHp D A s ws' tys' σ' H' locs' → qlr k ws' L' ls' → qsr ws' S' st' → cells' + n0 = σ'.1.length → slots' + z0 = qsz σ'.1 → W p l e R s m args below meth c H' locs' cells' slots' Q (F0 m pc' ls' st')) :
    W p l e R s m args below meth c H locs cells slots Q (F0 m pc ls st) := by
  obtain ⟨hkN, hx, hb, hml, hown, hts, hret, hlk, hnm, hRf, hRl, hAO⟩ := C
  obtain ⟨hh, hP, hK, hD, hSS⟩ := Hp
  simp only [qstep] at hs
  split at hs <;> first | (cases hs; done) | skip
  rename_i x hx0
  rw [Option.ite_none_right_eq_some] at hs
  obtain ⟨hq2, hs⟩ := hs
  simp only [Option.some.injEq, Prod.mk.injEq] at hs
  obtain ⟨rfl, rfl, rfl, rfl⟩ := hs
  simp only [qok, qdec, Bool.and_eq_true, Bool.or_eq_true, decide_eq_true_eq] at hok
  obtain ⟨v, hv, hl⟩ := hL.2.2.1 b _ hx0
  obtain ⟨rfl, hq⟩ := hv
  obtain ⟨⟨h1, h2⟩, hnb⟩ := hok
  subst h2
  obtain ⟨i, hi⟩ := qmem_at (qlv_mem.mpr hl)
  exact lv_iinc hx hb h1 (qlv_has hL.2.1) hi (Int32.ofInt_add x a).symm ((Array.getElem?_eq_some_iff.mp hl).1) rfl (fun ls' hl' => kk ws tys H locs ls' _ cells slots qext_rf ⟨hh, hP, hK, hD, hSS⟩ (qlr_set hL ⟨rfl, hq2⟩ rfl hnb hl') hS hc1 hc2)
theorem qs_6 {p : Program} {l : Launch} {e : Env} {R : Room} {s : State} {m : MethodId} {args : Array Value} {below : List Frame} {meth : Method} {c : Code} {H : Heap} {locs : List Loc} {cells slots : Nat} {Q : State → Prop} {D : va_G} {A : Nat → Prop} {k pc b nx : Nat} {a : Int} {cl : List Nat} {L S : List qA} {σ : qM} {pc' : Nat} {L' S' : List qA} {σ' : qM} {n0 z0 : Nat} {ws : va_W} {tys : List (ClassId × FieldType)} {ls : Array Slot} {st : List Value}
    (hok : qok k pc (6, a, b, cl, nx) = true) (hs : qstep 6 a b cl nx pc L S σ = some (pc', L', S', σ')) (hr1 : σ'.1.length ≤ n0 + R.cells) (hr2 : qsz σ'.1 ≤ z0 + R.slots) (C : qCtx p s m args meth c R k) (Hp : qHp D A s ws tys σ H locs) (hL : qlr k ws L ls) (hS : qsr ws S st) (hc1 : cells + n0 = σ.1.length) (hc2 : slots + z0 = qsz σ.1) (hA : ∀ q, s.heap.size ≤ q → A q) (hNl : L.length = qNl k)
    (kk : ∀ (ws' : va_W) (tys' : List (ClassId × FieldType)) (H' : Heap) (locs' : List Loc) (ls' : Array Slot) (st' : List Value) (cells' slots' : Nat), qext ws ws' → qHp D A s ws' tys' σ' H' locs' → qlr k ws' L' ls' → qsr ws' S' st' → cells' + n0 = σ'.1.length → slots' + z0 = qsz σ'.1 → W p l e R s m args below meth c H' locs' cells' slots' Q (F0 m pc' ls' st')) :
    W p l e R s m args below meth c H locs cells slots Q (F0 m pc ls st) := by
  obtain ⟨hkN, hx, hb, hml, hown, hts, hret, hlk, hnm, hRf, hRl, hAO⟩ := C
  obtain ⟨hh, hP, hK, hD, hSS⟩ := Hp
  simp only [qstep] at hs
  split at hs <;> first | (cases hs; done) | skip
  rename_i y x S1
  rw [Option.ite_none_right_eq_some] at hs
  obtain ⟨hq2, hs⟩ := hs
  simp only [Option.some.injEq, Prod.mk.injEq] at hs
  obtain ⟨rfl, rfl, rfl, rfl⟩ := hs
  simp only [qok, qdec, Bool.and_eq_true, Bool.or_eq_true, decide_eq_true_eq] at hok
  obtain ⟨st, rfl, hq, hS⟩ := qsr_int hS
  obtain ⟨st, rfl, hq1, hS⟩ := qsr_int hS
  obtain ⟨h1, h2⟩ := hok
  subst h2
  exact lv_iadd hx hb h1 (kk ws tys H locs ls _ cells slots qext_rf ⟨hh, hP, hK, hD, hSS⟩ hL ⟨⟨by rw [Int32.ofInt_add], hq2⟩, hS⟩ hc1 hc2)
theorem qs_7 {p : Program} {l : Launch} {e : Env} {R : Room} {s : State} {m : MethodId} {args : Array Value} {below : List Frame} {meth : Method} {c : Code} {H : Heap} {locs : List Loc} {cells slots : Nat} {Q : State → Prop} {D : va_G} {A : Nat → Prop} {k pc b nx : Nat} {a : Int} {cl : List Nat} {L S : List qA} {σ : qM} {pc' : Nat} {L' S' : List qA} {σ' : qM} {n0 z0 : Nat} {ws : va_W} {tys : List (ClassId × FieldType)} {ls : Array Slot} {st : List Value}
    (hok : qok k pc (7, a, b, cl, nx) = true) (hs : qstep 7 a b cl nx pc L S σ = some (pc', L', S', σ')) (hr1 : σ'.1.length ≤ n0 + R.cells) (hr2 : qsz σ'.1 ≤ z0 + R.slots) (C : qCtx p s m args meth c R k) (Hp : qHp D A s ws tys σ H locs) (hL : qlr k ws L ls) (hS : qsr ws S st) (hc1 : cells + n0 = σ.1.length) (hc2 : slots + z0 = qsz σ.1) (hA : ∀ q, s.heap.size ≤ q → A q) (hNl : L.length = qNl k)
    (kk : ∀ (ws' : va_W) (tys' : List (ClassId × FieldType)) (H' : Heap) (locs' : List Loc) (ls' : Array Slot) (st' : List Value) (cells' slots' : Nat), qext ws ws' → qHp D A s ws' tys' σ' H' locs' → qlr k ws' L' ls' → qsr ws' S' st' → cells' + n0 = σ'.1.length → slots' + z0 = qsz σ'.1 → W p l e R s m args below meth c H' locs' cells' slots' Q (F0 m pc' ls' st')) :
    W p l e R s m args below meth c H locs cells slots Q (F0 m pc ls st) := by
  obtain ⟨hkN, hx, hb, hml, hown, hts, hret, hlk, hnm, hRf, hRl, hAO⟩ := C
  obtain ⟨hh, hP, hK, hD, hSS⟩ := Hp
  simp only [qstep] at hs
  split at hs <;> first | (cases hs; done) | skip
  rename_i y x S1
  rw [Option.ite_none_right_eq_some] at hs
  obtain ⟨hq2, hs⟩ := hs
  simp only [Option.some.injEq, Prod.mk.injEq] at hs
  obtain ⟨rfl, rfl, rfl, rfl⟩ := hs
  simp only [qok, qdec, Bool.and_eq_true, Bool.or_eq_true, decide_eq_true_eq] at hok
  obtain ⟨st, rfl, hq, hS⟩ := qsr_int hS
  obtain ⟨st, rfl, hq1, hS⟩ := qsr_int hS
  obtain ⟨h1, h2⟩ := hok
  subst h2
  exact lv_isub hx hb h1 (kk ws tys H locs ls _ cells slots qext_rf ⟨hh, hP, hK, hD, hSS⟩ hL ⟨⟨by rw [Int32.ofInt_sub], hq2⟩, hS⟩ hc1 hc2)
theorem qs_8 {p : Program} {l : Launch} {e : Env} {R : Room} {s : State} {m : MethodId} {args : Array Value} {below : List Frame} {meth : Method} {c : Code} {H : Heap} {locs : List Loc} {cells slots : Nat} {Q : State → Prop} {D : va_G} {A : Nat → Prop} {k pc b nx : Nat} {a : Int} {cl : List Nat} {L S : List qA} {σ : qM} {pc' : Nat} {L' S' : List qA} {σ' : qM} {n0 z0 : Nat} {ws : va_W} {tys : List (ClassId × FieldType)} {ls : Array Slot} {st : List Value}
    (hok : qok k pc (8, a, b, cl, nx) = true) (hs : qstep 8 a b cl nx pc L S σ = some (pc', L', S', σ')) (hr1 : σ'.1.length ≤ n0 + R.cells) (hr2 : qsz σ'.1 ≤ z0 + R.slots) (C : qCtx p s m args meth c R k) (Hp : qHp D A s ws tys σ H locs) (hL : qlr k ws L ls) (hS : qsr ws S st) (hc1 : cells + n0 = σ.1.length) (hc2 : slots + z0 = qsz σ.1) (hA : ∀ q, s.heap.size ≤ q → A q) (hNl : L.length = qNl k)
    (kk : ∀ (ws' : va_W) (tys' : List (ClassId × FieldType)) (H' : Heap) (locs' : List Loc) (ls' : Array Slot) (st' : List Value) (cells' slots' : Nat), qext ws ws' → qHp D A s ws' tys' σ' H' locs' → qlr k ws' L' ls' → qsr ws' S' st' → cells' + n0 = σ'.1.length → slots' + z0 = qsz σ'.1 → W p l e R s m args below meth c H' locs' cells' slots' Q (F0 m pc' ls' st')) :
    W p l e R s m args below meth c H locs cells slots Q (F0 m pc ls st) := by
  obtain ⟨hkN, hx, hb, hml, hown, hts, hret, hlk, hnm, hRf, hRl, hAO⟩ := C
  obtain ⟨hh, hP, hK, hD, hSS⟩ := Hp
  simp only [qstep] at hs
  split at hs <;> first | (cases hs; done) | skip
  rename_i y x S1
  rw [Option.ite_none_right_eq_some] at hs
  obtain ⟨hq2, hs⟩ := hs
  simp only [Option.some.injEq, Prod.mk.injEq] at hs
  obtain ⟨rfl, rfl, rfl, rfl⟩ := hs
  simp only [qok, qdec, Bool.and_eq_true, Bool.or_eq_true, decide_eq_true_eq] at hok
  obtain ⟨st, rfl, hq, hS⟩ := qsr_int hS
  obtain ⟨st, rfl, hq1, hS⟩ := qsr_int hS
  obtain ⟨h1, h2⟩ := hok
  subst h2
  exact lv_imul hx hb h1 (kk ws tys H locs ls _ cells slots qext_rf ⟨hh, hP, hK, hD, hSS⟩ hL ⟨⟨by rw [Int32.ofInt_mul], hq2⟩, hS⟩ hc1 hc2)
theorem qs_9 {p : Program} {l : Launch} {e : Env} {R : Room} {s : State} {m : MethodId} {args : Array Value} {below : List Frame} {meth : Method} {c : Code} {H : Heap} {locs : List Loc} {cells slots : Nat} {Q : State → Prop} {D : va_G} {A : Nat → Prop} {k pc b nx : Nat} {a : Int} {cl : List Nat} {L S : List qA} {σ : qM} {pc' : Nat} {L' S' : List qA} {σ' : qM} {n0 z0 : Nat} {ws : va_W} {tys : List (ClassId × FieldType)} {ls : Array Slot} {st : List Value}
    (hok : qok k pc (9, a, b, cl, nx) = true) (hs : qstep 9 a b cl nx pc L S σ = some (pc', L', S', σ')) (hr1 : σ'.1.length ≤ n0 + R.cells) (hr2 : qsz σ'.1 ≤ z0 + R.slots) (C : qCtx p s m args meth c R k) (Hp : qHp D A s ws tys σ H locs) (hL : qlr k ws L ls) (hS : qsr ws S st) (hc1 : cells + n0 = σ.1.length) (hc2 : slots + z0 = qsz σ.1) (hA : ∀ q, s.heap.size ≤ q → A q) (hNl : L.length = qNl k)
    (kk : ∀ (ws' : va_W) (tys' : List (ClassId × FieldType)) (H' : Heap) (locs' : List Loc) (ls' : Array Slot) (st' : List Value) (cells' slots' : Nat), qext ws ws' → qHp D A s ws' tys' σ' H' locs' → qlr k ws' L' ls' → qsr ws' S' st' → cells' + n0 = σ'.1.length → slots' + z0 = qsz σ'.1 → W p l e R s m args below meth c H' locs' cells' slots' Q (F0 m pc' ls' st')) :
    W p l e R s m args below meth c H locs cells slots Q (F0 m pc ls st) := by
  obtain ⟨hkN, hx, hb, hml, hown, hts, hret, hlk, hnm, hRf, hRl, hAO⟩ := C
  obtain ⟨hh, hP, hK, hD, hSS⟩ := Hp
  simp only [qstep] at hs
  split at hs <;> first | (cases hs; done) | skip
  rename_i y x S1
  rw [Option.ite_none_right_eq_some] at hs
  obtain ⟨⟨hx1, hy1⟩, hs⟩ := hs
  simp only [Option.some.injEq, Prod.mk.injEq] at hs
  obtain ⟨rfl, rfl, rfl, rfl⟩ := hs
  simp only [qok, qdec, Bool.and_eq_true, Bool.or_eq_true, decide_eq_true_eq] at hok
  obtain ⟨st, rfl, hq, hS⟩ := qsr_int hS
  obtain ⟨st, rfl, hq1, hS⟩ := qsr_int hS
  obtain ⟨h1, h2⟩ := hok
  subst h2
  obtain ⟨e1, e2⟩ := qdiv hx1 hy1 hq1 hq
  exact lv_idiv hx hb h1 (fun h0 => absurd ((qeq hq q0in).mp h0) (by omega)) (kk ws tys H locs ls _ cells slots qext_rf ⟨hh, hP, hK, hD, hSS⟩ hL ⟨⟨by rw [e1], e2⟩, hS⟩ hc1 hc2)
theorem qs_10 {p : Program} {l : Launch} {e : Env} {R : Room} {s : State} {m : MethodId} {args : Array Value} {below : List Frame} {meth : Method} {c : Code} {H : Heap} {locs : List Loc} {cells slots : Nat} {Q : State → Prop} {D : va_G} {A : Nat → Prop} {k pc b nx : Nat} {a : Int} {cl : List Nat} {L S : List qA} {σ : qM} {pc' : Nat} {L' S' : List qA} {σ' : qM} {n0 z0 : Nat} {ws : va_W} {tys : List (ClassId × FieldType)} {ls : Array Slot} {st : List Value}
    (hok : qok k pc (10, a, b, cl, nx) = true) (hs : qstep 10 a b cl nx pc L S σ = some (pc', L', S', σ')) (hr1 : σ'.1.length ≤ n0 + R.cells) (hr2 : qsz σ'.1 ≤ z0 + R.slots) (C : qCtx p s m args meth c R k) (Hp : qHp D A s ws tys σ H locs) (hL : qlr k ws L ls) (hS : qsr ws S st) (hc1 : cells + n0 = σ.1.length) (hc2 : slots + z0 = qsz σ.1) (hA : ∀ q, s.heap.size ≤ q → A q) (hNl : L.length = qNl k)
    (kk : ∀ (ws' : va_W) (tys' : List (ClassId × FieldType)) (H' : Heap) (locs' : List Loc) (ls' : Array Slot) (st' : List Value) (cells' slots' : Nat), qext ws ws' → qHp D A s ws' tys' σ' H' locs' → qlr k ws' L' ls' → qsr ws' S' st' → cells' + n0 = σ'.1.length → slots' + z0 = qsz σ'.1 → W p l e R s m args below meth c H' locs' cells' slots' Q (F0 m pc' ls' st')) :
    W p l e R s m args below meth c H locs cells slots Q (F0 m pc ls st) := by
  obtain ⟨hkN, hx, hb, hml, hown, hts, hret, hlk, hnm, hRf, hRl, hAO⟩ := C
  obtain ⟨hh, hP, hK, hD, hSS⟩ := Hp
  simp only [qstep] at hs
  split at hs <;> first | (cases hs; done) | skip
  rename_i y x S1
  rw [Option.ite_none_right_eq_some] at hs
  obtain ⟨⟨hx1, hy1⟩, hs⟩ := hs
  simp only [Option.some.injEq, Prod.mk.injEq] at hs
  obtain ⟨rfl, rfl, rfl, rfl⟩ := hs
  simp only [qok, qdec, Bool.and_eq_true, Bool.or_eq_true, decide_eq_true_eq] at hok
  obtain ⟨st, rfl, hq, hS⟩ := qsr_int hS
  obtain ⟨st, rfl, hq1, hS⟩ := qsr_int hS
  obtain ⟨h1, h2⟩ := hok
  subst h2
  obtain ⟨e1, e2⟩ := qrem hx1 hy1 hq1 hq
  exact lv_irem hx hb h1 (fun h0 => absurd ((qeq hq q0in).mp h0) (by omega)) (kk ws tys H locs ls _ cells slots qext_rf ⟨hh, hP, hK, hD, hSS⟩ hL ⟨⟨by rw [e1], e2⟩, hS⟩ hc1 hc2)
theorem qs_12 {p : Program} {l : Launch} {e : Env} {R : Room} {s : State} {m : MethodId} {args : Array Value} {below : List Frame} {meth : Method} {c : Code} {H : Heap} {locs : List Loc} {cells slots : Nat} {Q : State → Prop} {D : va_G} {A : Nat → Prop} {k pc b nx : Nat} {a : Int} {cl : List Nat} {L S : List qA} {σ : qM} {pc' : Nat} {L' S' : List qA} {σ' : qM} {n0 z0 : Nat} {ws : va_W} {tys : List (ClassId × FieldType)} {ls : Array Slot} {st : List Value}
    (hok : qok k pc (12, a, b, cl, nx) = true) (hs : qstep 12 a b cl nx pc L S σ = some (pc', L', S', σ')) (hr1 : σ'.1.length ≤ n0 + R.cells) (hr2 : qsz σ'.1 ≤ z0 + R.slots) (C : qCtx p s m args meth c R k) (Hp : qHp D A s ws tys σ H locs) (hL : qlr k ws L ls) (hS : qsr ws S st) (hc1 : cells + n0 = σ.1.length) (hc2 : slots + z0 = qsz σ.1) (hA : ∀ q, s.heap.size ≤ q → A q) (hNl : L.length = qNl k)
    (kk : ∀ (ws' : va_W) (tys' : List (ClassId × FieldType)) (H' : Heap) (locs' : List Loc) (ls' : Array Slot) (st' : List Value) (cells' slots' : Nat), qext ws ws' → qHp D A s ws' tys' σ' H' locs' → qlr k ws' L' ls' → qsr ws' S' st' → cells' + n0 = σ'.1.length → slots' + z0 = qsz σ'.1 → W p l e R s m args below meth c H' locs' cells' slots' Q (F0 m pc' ls' st')) :
    W p l e R s m args below meth c H locs cells slots Q (F0 m pc ls st) := by
  obtain ⟨hkN, hx, hb, hml, hown, hts, hret, hlk, hnm, hRf, hRl, hAO⟩ := C
  obtain ⟨hh, hP, hK, hD, hSS⟩ := Hp
  simp only [qstep] at hs
  split at hs <;> first | (cases hs; done) | skip
  rename_i x S1
  rw [Option.ite_none_right_eq_some] at hs
  obtain ⟨hx1, hs⟩ := hs
  simp only [Option.some.injEq, Prod.mk.injEq] at hs
  obtain ⟨rfl, rfl, rfl, rfl⟩ := hs
  simp only [qok, qdec, Bool.and_eq_true, Bool.or_eq_true, decide_eq_true_eq] at hok
  obtain ⟨v, st, rfl, hv, hS⟩ := qsr_cons hS
  obtain ⟨h1, h2⟩ := hok
  subst h2
  exact lv_dup hx hb h1 (qvr_cat hv hx1) (kk ws tys H locs ls _ cells slots qext_rf ⟨hh, hP, hK, hD, hSS⟩ hL ⟨hv, hv, hS⟩ hc1 hc2)
theorem qs_13 {p : Program} {l : Launch} {e : Env} {R : Room} {s : State} {m : MethodId} {args : Array Value} {below : List Frame} {meth : Method} {c : Code} {H : Heap} {locs : List Loc} {cells slots : Nat} {Q : State → Prop} {D : va_G} {A : Nat → Prop} {k pc b nx : Nat} {a : Int} {cl : List Nat} {L S : List qA} {σ : qM} {pc' : Nat} {L' S' : List qA} {σ' : qM} {n0 z0 : Nat} {ws : va_W} {tys : List (ClassId × FieldType)} {ls : Array Slot} {st : List Value}
    (hok : qok k pc (13, a, b, cl, nx) = true) (hs : qstep 13 a b cl nx pc L S σ = some (pc', L', S', σ')) (hr1 : σ'.1.length ≤ n0 + R.cells) (hr2 : qsz σ'.1 ≤ z0 + R.slots) (C : qCtx p s m args meth c R k) (Hp : qHp D A s ws tys σ H locs) (hL : qlr k ws L ls) (hS : qsr ws S st) (hc1 : cells + n0 = σ.1.length) (hc2 : slots + z0 = qsz σ.1) (hA : ∀ q, s.heap.size ≤ q → A q) (hNl : L.length = qNl k)
    (kk : ∀ (ws' : va_W) (tys' : List (ClassId × FieldType)) (H' : Heap) (locs' : List Loc) (ls' : Array Slot) (st' : List Value) (cells' slots' : Nat), qext ws ws' → qHp D A s ws' tys' σ' H' locs' → qlr k ws' L' ls' → qsr ws' S' st' → cells' + n0 = σ'.1.length → slots' + z0 = qsz σ'.1 → W p l e R s m args below meth c H' locs' cells' slots' Q (F0 m pc' ls' st')) :
    W p l e R s m args below meth c H locs cells slots Q (F0 m pc ls st) := by
  obtain ⟨hkN, hx, hb, hml, hown, hts, hret, hlk, hnm, hRf, hRl, hAO⟩ := C
  obtain ⟨hh, hP, hK, hD, hSS⟩ := Hp
  simp only [qstep] at hs
  split at hs <;> first | (cases hs; done) | skip
  rename_i x y S1
  rw [Option.ite_none_right_eq_some] at hs
  obtain ⟨⟨hx1, hy1⟩, hs⟩ := hs
  simp only [Option.some.injEq, Prod.mk.injEq] at hs
  obtain ⟨rfl, rfl, rfl, rfl⟩ := hs
  simp only [qok, qdec, Bool.and_eq_true, Bool.or_eq_true, decide_eq_true_eq] at hok
  obtain ⟨v, st, rfl, hv, hS⟩ := qsr_cons hS
  obtain ⟨w, st, rfl, hw, hS⟩ := qsr_cons hS
  obtain ⟨h1, h2⟩ := hok
  subst h2
  exact lv_dup2_11 hx hb h1 (by first | exact qvr_cat hv hx1 | exact qvr_cat hw hy1) (by first | exact qvr_cat hw hy1 | exact qvr_cat hv hx1) (kk ws tys H locs ls _ cells slots qext_rf ⟨hh, hP, hK, hD, hSS⟩ hL ⟨hv, hw, hv, hw, hS⟩ hc1 hc2)
theorem qs_14 {p : Program} {l : Launch} {e : Env} {R : Room} {s : State} {m : MethodId} {args : Array Value} {below : List Frame} {meth : Method} {c : Code} {H : Heap} {locs : List Loc} {cells slots : Nat} {Q : State → Prop} {D : va_G} {A : Nat → Prop} {k pc b nx : Nat} {a : Int} {cl : List Nat} {L S : List qA} {σ : qM} {pc' : Nat} {L' S' : List qA} {σ' : qM} {n0 z0 : Nat} {ws : va_W} {tys : List (ClassId × FieldType)} {ls : Array Slot} {st : List Value}
    (hok : qok k pc (14, a, b, cl, nx) = true) (hs : qstep 14 a b cl nx pc L S σ = some (pc', L', S', σ')) (hr1 : σ'.1.length ≤ n0 + R.cells) (hr2 : qsz σ'.1 ≤ z0 + R.slots) (C : qCtx p s m args meth c R k) (Hp : qHp D A s ws tys σ H locs) (hL : qlr k ws L ls) (hS : qsr ws S st) (hc1 : cells + n0 = σ.1.length) (hc2 : slots + z0 = qsz σ.1) (hA : ∀ q, s.heap.size ≤ q → A q) (hNl : L.length = qNl k)
    (kk : ∀ (ws' : va_W) (tys' : List (ClassId × FieldType)) (H' : Heap) (locs' : List Loc) (ls' : Array Slot) (st' : List Value) (cells' slots' : Nat), qext ws ws' → qHp D A s ws' tys' σ' H' locs' → qlr k ws' L' ls' → qsr ws' S' st' → cells' + n0 = σ'.1.length → slots' + z0 = qsz σ'.1 → W p l e R s m args below meth c H' locs' cells' slots' Q (F0 m pc' ls' st')) :
    W p l e R s m args below meth c H locs cells slots Q (F0 m pc ls st) := by
  obtain ⟨hkN, hx, hb, hml, hown, hts, hret, hlk, hnm, hRf, hRl, hAO⟩ := C
  obtain ⟨hh, hP, hK, hD, hSS⟩ := Hp
  simp only [qstep] at hs
  split at hs <;> first | (cases hs; done) | skip
  rename_i x S1
  rw [Option.ite_none_right_eq_some] at hs
  obtain ⟨hx1, hs⟩ := hs
  simp only [Option.some.injEq, Prod.mk.injEq] at hs
  obtain ⟨rfl, rfl, rfl, rfl⟩ := hs
  simp only [qok, qdec, Bool.and_eq_true, Bool.or_eq_true, decide_eq_true_eq] at hok
  obtain ⟨v, st, rfl, hv, hS⟩ := qsr_cons hS
  obtain ⟨h1, h2⟩ := hok
  subst h2
  exact lv_pop hx hb h1 (qvr_cat hv hx1) (kk ws tys H locs ls _ cells slots qext_rf ⟨hh, hP, hK, hD, hSS⟩ hL hS hc1 hc2)
theorem qs_15 {p : Program} {l : Launch} {e : Env} {R : Room} {s : State} {m : MethodId} {args : Array Value} {below : List Frame} {meth : Method} {c : Code} {H : Heap} {locs : List Loc} {cells slots : Nat} {Q : State → Prop} {D : va_G} {A : Nat → Prop} {k pc b nx : Nat} {a : Int} {cl : List Nat} {L S : List qA} {σ : qM} {pc' : Nat} {L' S' : List qA} {σ' : qM} {n0 z0 : Nat} {ws : va_W} {tys : List (ClassId × FieldType)} {ls : Array Slot} {st : List Value}
    (hok : qok k pc (15, a, b, cl, nx) = true) (hs : qstep 15 a b cl nx pc L S σ = some (pc', L', S', σ')) (hr1 : σ'.1.length ≤ n0 + R.cells) (hr2 : qsz σ'.1 ≤ z0 + R.slots) (C : qCtx p s m args meth c R k) (Hp : qHp D A s ws tys σ H locs) (hL : qlr k ws L ls) (hS : qsr ws S st) (hc1 : cells + n0 = σ.1.length) (hc2 : slots + z0 = qsz σ.1) (hA : ∀ q, s.heap.size ≤ q → A q) (hNl : L.length = qNl k)
    (kk : ∀ (ws' : va_W) (tys' : List (ClassId × FieldType)) (H' : Heap) (locs' : List Loc) (ls' : Array Slot) (st' : List Value) (cells' slots' : Nat), qext ws ws' → qHp D A s ws' tys' σ' H' locs' → qlr k ws' L' ls' → qsr ws' S' st' → cells' + n0 = σ'.1.length → slots' + z0 = qsz σ'.1 → W p l e R s m args below meth c H' locs' cells' slots' Q (F0 m pc' ls' st')) :
    W p l e R s m args below meth c H locs cells slots Q (F0 m pc ls st) := by
  obtain ⟨hkN, hx, hb, hml, hown, hts, hret, hlk, hnm, hRf, hRl, hAO⟩ := C
  obtain ⟨hh, hP, hK, hD, hSS⟩ := Hp
  simp only [qstep] at hs
  simp only [Option.some.injEq, Prod.mk.injEq] at hs
  obtain ⟨rfl, rfl, rfl, rfl⟩ := hs
  simp only [qok, qdec, Bool.and_eq_true, Bool.or_eq_true, decide_eq_true_eq] at hok
  exact lv_goto hx hb hok (by omega) (kk ws tys H locs ls _ cells slots qext_rf ⟨hh, hP, hK, hD, hSS⟩ hL hS hc1 hc2)
theorem qs_16 {p : Program} {l : Launch} {e : Env} {R : Room} {s : State} {m : MethodId} {args : Array Value} {below : List Frame} {meth : Method} {c : Code} {H : Heap} {locs : List Loc} {cells slots : Nat} {Q : State → Prop} {D : va_G} {A : Nat → Prop} {k pc b nx : Nat} {a : Int} {cl : List Nat} {L S : List qA} {σ : qM} {pc' : Nat} {L' S' : List qA} {σ' : qM} {n0 z0 : Nat} {ws : va_W} {tys : List (ClassId × FieldType)} {ls : Array Slot} {st : List Value}
    (hok : qok k pc (16, a, b, cl, nx) = true) (hs : qstep 16 a b cl nx pc L S σ = some (pc', L', S', σ')) (hr1 : σ'.1.length ≤ n0 + R.cells) (hr2 : qsz σ'.1 ≤ z0 + R.slots) (C : qCtx p s m args meth c R k) (Hp : qHp D A s ws tys σ H locs) (hL : qlr k ws L ls) (hS : qsr ws S st) (hc1 : cells + n0 = σ.1.length) (hc2 : slots + z0 = qsz σ.1) (hA : ∀ q, s.heap.size ≤ q → A q) (hNl : L.length = qNl k)
    (kk : ∀ (ws' : va_W) (tys' : List (ClassId × FieldType)) (H' : Heap) (locs' : List Loc) (ls' : Array Slot) (st' : List Value) (cells' slots' : Nat), qext ws ws' → qHp D A s ws' tys' σ' H' locs' → qlr k ws' L' ls' → qsr ws' S' st' → cells' + n0 = σ'.1.length → slots' + z0 = qsz σ'.1 → W p l e R s m args below meth c H' locs' cells' slots' Q (F0 m pc' ls' st')) :
    W p l e R s m args below meth c H locs cells slots Q (F0 m pc ls st) := by
  obtain ⟨hkN, hx, hb, hml, hown, hts, hret, hlk, hnm, hRf, hRl, hAO⟩ := C
  obtain ⟨hh, hP, hK, hD, hSS⟩ := Hp
  simp only [qstep] at hs
  split at hs <;> first | (cases hs; done) | skip
  rename_i y x S1
  simp only [Option.some.injEq, Prod.mk.injEq] at hs
  obtain ⟨hpc, rfl, rfl, rfl⟩ := hs
  simp only [qok, qdec, Bool.and_eq_true, Bool.or_eq_true, decide_eq_true_eq] at hok
  obtain ⟨h1, h2⟩ := hok
  subst h2
  obtain ⟨st, rfl, hq, hS⟩ := qsr_int hS
  obtain ⟨st, rfl, hq1, hS⟩ := qsr_int hS
  have kt : qcmp a x y = true → W p l e R s m args below meth c H locs cells slots Q (F0 m b ls st) := fun h => by
    rw [if_pos h] at hpc
    subst hpc
    exact kk ws tys H locs ls _ cells slots qext_rf ⟨hh, hP, hK, hD, hSS⟩ hL hS hc1 hc2
  have kf : ¬ qcmp a x y = true → W p l e R s m args below meth c H locs cells slots Q (F0 m (pc + 3) ls st) := fun h => by
    rw [if_neg h] at hpc
    subst hpc
    exact kk ws tys H locs ls _ cells slots qext_rf ⟨hh, hP, hK, hD, hSS⟩ hL hS hc1 hc2
  by_cases hn0 : a = 0
  · have hcc : qcc a = .eq := by simp [qcc, hn0]
    have hqc : qcmp a x y = decide (x = y) := by simp [qcmp, hn0]
    rw [hcc] at h1
    exact lv_icmp_eq hx hb h1 (by omega) (fun h => kt (by rw [hqc]; exact decide_eq_true ((qeq hq1 hq).mp h))) (fun h => kf (by rw [hqc]; exact fun h9 => h ((qeq hq1 hq).mpr (of_decide_eq_true h9))))
  by_cases hn1 : a = 1
  · have hcc : qcc a = .ne := by simp [qcc, hn1]
    have hqc : qcmp a x y = decide (x ≠ y) := by simp [qcmp, hn1]
    rw [hcc] at h1
    exact lv_icmp_ne hx hb h1 (by omega) (fun h => kt (by rw [hqc]; exact decide_eq_true (fun h9 => h ((qeq hq1 hq).mpr h9)))) (fun h => kf (by rw [hqc]; exact fun h9 => of_decide_eq_true h9 ((qeq hq1 hq).mp h)))
  by_cases hn2 : a = 2
  · have hcc : qcc a = .lt := by simp [qcc, hn2]
    have hqc : qcmp a x y = decide (x < y) := by simp [qcmp, hn2]
    rw [hcc] at h1
    exact lv_icmp_lt hx hb h1 (by omega) (fun h => kt (by rw [hqc]; exact decide_eq_true ((qlt hq1 hq).mp h))) (fun h => kf (by rw [hqc]; exact fun h9 => h ((qlt hq1 hq).mpr (of_decide_eq_true h9))))
  by_cases hn3 : a = 3
  · have hcc : qcc a = .ge := by simp [qcc, hn3]
    have hqc : qcmp a x y = decide (y ≤ x) := by simp [qcmp, hn3]
    rw [hcc] at h1
    exact lv_icmp_ge hx hb h1 (by omega) (fun h => kt (by rw [hqc]; exact decide_eq_true ((qle hq hq1).mp h))) (fun h => kf (by rw [hqc]; exact fun h9 => h ((qle hq hq1).mpr (of_decide_eq_true h9))))
  by_cases hn4 : a = 4
  · have hcc : qcc a = .gt := by simp [qcc, hn4]
    have hqc : qcmp a x y = decide (y < x) := by simp [qcmp, hn4]
    rw [hcc] at h1
    exact lv_icmp_gt hx hb h1 (by omega) (fun h => kt (by rw [hqc]; exact decide_eq_true ((qlt hq hq1).mp h))) (fun h => kf (by rw [hqc]; exact fun h9 => h ((qlt hq hq1).mpr (of_decide_eq_true h9))))
  have hcc : qcc a = .le := by simp [qcc, hn0, hn1, hn2, hn3, hn4]
  have hqc : qcmp a x y = decide (x ≤ y) := by simp [qcmp, hn0, hn1, hn2, hn3, hn4]
  rw [hcc] at h1
  exact lv_icmp_le hx hb h1 (by omega) (fun h => kt (by rw [hqc]; exact decide_eq_true ((qle hq1 hq).mp h))) (fun h => kf (by rw [hqc]; exact fun h9 => h ((qle hq1 hq).mpr (of_decide_eq_true h9))))
theorem qs_17 {p : Program} {l : Launch} {e : Env} {R : Room} {s : State} {m : MethodId} {args : Array Value} {below : List Frame} {meth : Method} {c : Code} {H : Heap} {locs : List Loc} {cells slots : Nat} {Q : State → Prop} {D : va_G} {A : Nat → Prop} {k pc b nx : Nat} {a : Int} {cl : List Nat} {L S : List qA} {σ : qM} {pc' : Nat} {L' S' : List qA} {σ' : qM} {n0 z0 : Nat} {ws : va_W} {tys : List (ClassId × FieldType)} {ls : Array Slot} {st : List Value}
    (hok : qok k pc (17, a, b, cl, nx) = true) (hs : qstep 17 a b cl nx pc L S σ = some (pc', L', S', σ')) (hr1 : σ'.1.length ≤ n0 + R.cells) (hr2 : qsz σ'.1 ≤ z0 + R.slots) (C : qCtx p s m args meth c R k) (Hp : qHp D A s ws tys σ H locs) (hL : qlr k ws L ls) (hS : qsr ws S st) (hc1 : cells + n0 = σ.1.length) (hc2 : slots + z0 = qsz σ.1) (hA : ∀ q, s.heap.size ≤ q → A q) (hNl : L.length = qNl k)
    (kk : ∀ (ws' : va_W) (tys' : List (ClassId × FieldType)) (H' : Heap) (locs' : List Loc) (ls' : Array Slot) (st' : List Value) (cells' slots' : Nat), qext ws ws' → qHp D A s ws' tys' σ' H' locs' → qlr k ws' L' ls' → qsr ws' S' st' → cells' + n0 = σ'.1.length → slots' + z0 = qsz σ'.1 → W p l e R s m args below meth c H' locs' cells' slots' Q (F0 m pc' ls' st')) :
    W p l e R s m args below meth c H locs cells slots Q (F0 m pc ls st) := by
  obtain ⟨hkN, hx, hb, hml, hown, hts, hret, hlk, hnm, hRf, hRl, hAO⟩ := C
  obtain ⟨hh, hP, hK, hD, hSS⟩ := Hp
  simp only [qstep] at hs
  split at hs <;> first | (cases hs; done) | skip
  rename_i x S1
  simp only [Option.some.injEq, Prod.mk.injEq] at hs
  obtain ⟨hpc, rfl, rfl, rfl⟩ := hs
  simp only [qok, qdec, Bool.and_eq_true, Bool.or_eq_true, decide_eq_true_eq] at hok
  obtain ⟨h1, h2⟩ := hok
  subst h2
  obtain ⟨st, rfl, hq1, hS⟩ := qsr_int hS
  have hq : qin 0 := q0in
  have kt : qcmp a x 0 = true → W p l e R s m args below meth c H locs cells slots Q (F0 m b ls st) := fun h => by
    rw [if_pos h] at hpc
    subst hpc
    exact kk ws tys H locs ls _ cells slots qext_rf ⟨hh, hP, hK, hD, hSS⟩ hL hS hc1 hc2
  have kf : ¬ qcmp a x 0 = true → W p l e R s m args below meth c H locs cells slots Q (F0 m (pc + 3) ls st) := fun h => by
    rw [if_neg h] at hpc
    subst hpc
    exact kk ws tys H locs ls _ cells slots qext_rf ⟨hh, hP, hK, hD, hSS⟩ hL hS hc1 hc2
  by_cases hn0 : a = 0
  · have hcc : qcc a = .eq := by simp [qcc, hn0]
    have hqc : qcmp a x 0 = decide (x = 0) := by simp [qcmp, hn0]
    rw [hcc] at h1
    exact lv_if_eq hx hb h1 (by omega) (fun h => kt (by rw [hqc]; exact decide_eq_true ((qeq hq1 hq).mp h))) (fun h => kf (by rw [hqc]; exact fun h9 => h ((qeq hq1 hq).mpr (of_decide_eq_true h9))))
  by_cases hn1 : a = 1
  · have hcc : qcc a = .ne := by simp [qcc, hn1]
    have hqc : qcmp a x 0 = decide (x ≠ 0) := by simp [qcmp, hn1]
    rw [hcc] at h1
    exact lv_if_ne hx hb h1 (by omega) (fun h => kt (by rw [hqc]; exact decide_eq_true (fun h9 => h ((qeq hq1 hq).mpr h9)))) (fun h => kf (by rw [hqc]; exact fun h9 => of_decide_eq_true h9 ((qeq hq1 hq).mp h)))
  by_cases hn2 : a = 2
  · have hcc : qcc a = .lt := by simp [qcc, hn2]
    have hqc : qcmp a x 0 = decide (x < 0) := by simp [qcmp, hn2]
    rw [hcc] at h1
    exact lv_if_lt hx hb h1 (by omega) (fun h => kt (by rw [hqc]; exact decide_eq_true ((qlt hq1 hq).mp h))) (fun h => kf (by rw [hqc]; exact fun h9 => h ((qlt hq1 hq).mpr (of_decide_eq_true h9))))
  by_cases hn3 : a = 3
  · have hcc : qcc a = .ge := by simp [qcc, hn3]
    have hqc : qcmp a x 0 = decide (0 ≤ x) := by simp [qcmp, hn3]
    rw [hcc] at h1
    exact lv_if_ge hx hb h1 (by omega) (fun h => kt (by rw [hqc]; exact decide_eq_true ((qle hq hq1).mp h))) (fun h => kf (by rw [hqc]; exact fun h9 => h ((qle hq hq1).mpr (of_decide_eq_true h9))))
  by_cases hn4 : a = 4
  · have hcc : qcc a = .gt := by simp [qcc, hn4]
    have hqc : qcmp a x 0 = decide (0 < x) := by simp [qcmp, hn4]
    rw [hcc] at h1
    exact lv_if_gt hx hb h1 (by omega) (fun h => kt (by rw [hqc]; exact decide_eq_true ((qlt hq hq1).mp h))) (fun h => kf (by rw [hqc]; exact fun h9 => h ((qlt hq hq1).mpr (of_decide_eq_true h9))))
  have hcc : qcc a = .le := by simp [qcc, hn0, hn1, hn2, hn3, hn4]
  have hqc : qcmp a x 0 = decide (x ≤ 0) := by simp [qcmp, hn0, hn1, hn2, hn3, hn4]
  rw [hcc] at h1
  exact lv_if_le hx hb h1 (by omega) (fun h => kt (by rw [hqc]; exact decide_eq_true ((qle hq1 hq).mp h))) (fun h => kf (by rw [hqc]; exact fun h9 => h ((qle hq1 hq).mpr (of_decide_eq_true h9))))
theorem qs_18 {p : Program} {l : Launch} {e : Env} {R : Room} {s : State} {m : MethodId} {args : Array Value} {below : List Frame} {meth : Method} {c : Code} {H : Heap} {locs : List Loc} {cells slots : Nat} {Q : State → Prop} {D : va_G} {A : Nat → Prop} {k pc b nx : Nat} {a : Int} {cl : List Nat} {L S : List qA} {σ : qM} {pc' : Nat} {L' S' : List qA} {σ' : qM} {n0 z0 : Nat} {ws : va_W} {tys : List (ClassId × FieldType)} {ls : Array Slot} {st : List Value}
    (hok : qok k pc (18, a, b, cl, nx) = true) (hs : qstep 18 a b cl nx pc L S σ = some (pc', L', S', σ')) (hr1 : σ'.1.length ≤ n0 + R.cells) (hr2 : qsz σ'.1 ≤ z0 + R.slots) (C : qCtx p s m args meth c R k) (Hp : qHp D A s ws tys σ H locs) (hL : qlr k ws L ls) (hS : qsr ws S st) (hc1 : cells + n0 = σ.1.length) (hc2 : slots + z0 = qsz σ.1) (hA : ∀ q, s.heap.size ≤ q → A q) (hNl : L.length = qNl k)
    (kk : ∀ (ws' : va_W) (tys' : List (ClassId × FieldType)) (H' : Heap) (locs' : List Loc) (ls' : Array Slot) (st' : List Value) (cells' slots' : Nat), qext ws ws' → qHp D A s ws' tys' σ' H' locs' → qlr k ws' L' ls' → qsr ws' S' st' → cells' + n0 = σ'.1.length → slots' + z0 = qsz σ'.1 → W p l e R s m args below meth c H' locs' cells' slots' Q (F0 m pc' ls' st')) :
    W p l e R s m args below meth c H locs cells slots Q (F0 m pc ls st) := by
  obtain ⟨hkN, hx, hb, hml, hown, hts, hret, hlk, hnm, hRf, hRl, hAO⟩ := C
  obtain ⟨hh, hP, hK, hD, hSS⟩ := Hp
  simp only [qstep] at hs
  split at hs <;> first | (cases hs; done) | skip
  rename_i x S1
  simp only [Option.some.injEq, Prod.mk.injEq] at hs
  obtain ⟨rfl, rfl, rfl, rfl⟩ := hs
  simp only [qok, qdec, Bool.and_eq_true, Bool.or_eq_true, decide_eq_true_eq] at hok
  obtain ⟨q, st, rfl, hq, hS⟩ := qsr_ref hS
  obtain ⟨h1, h2⟩ := hok
  subst h2
  exact lv_ifnull hx hb h1 (kk ws tys H locs ls _ cells slots qext_rf ⟨hh, hP, hK, hD, hSS⟩ hL hS hc1 hc2)
theorem qs_19 {p : Program} {l : Launch} {e : Env} {R : Room} {s : State} {m : MethodId} {args : Array Value} {below : List Frame} {meth : Method} {c : Code} {H : Heap} {locs : List Loc} {cells slots : Nat} {Q : State → Prop} {D : va_G} {A : Nat → Prop} {k pc b nx : Nat} {a : Int} {cl : List Nat} {L S : List qA} {σ : qM} {pc' : Nat} {L' S' : List qA} {σ' : qM} {n0 z0 : Nat} {ws : va_W} {tys : List (ClassId × FieldType)} {ls : Array Slot} {st : List Value}
    (hok : qok k pc (19, a, b, cl, nx) = true) (hs : qstep 19 a b cl nx pc L S σ = some (pc', L', S', σ')) (hr1 : σ'.1.length ≤ n0 + R.cells) (hr2 : qsz σ'.1 ≤ z0 + R.slots) (C : qCtx p s m args meth c R k) (Hp : qHp D A s ws tys σ H locs) (hL : qlr k ws L ls) (hS : qsr ws S st) (hc1 : cells + n0 = σ.1.length) (hc2 : slots + z0 = qsz σ.1) (hA : ∀ q, s.heap.size ≤ q → A q) (hNl : L.length = qNl k)
    (kk : ∀ (ws' : va_W) (tys' : List (ClassId × FieldType)) (H' : Heap) (locs' : List Loc) (ls' : Array Slot) (st' : List Value) (cells' slots' : Nat), qext ws ws' → qHp D A s ws' tys' σ' H' locs' → qlr k ws' L' ls' → qsr ws' S' st' → cells' + n0 = σ'.1.length → slots' + z0 = qsz σ'.1 → W p l e R s m args below meth c H' locs' cells' slots' Q (F0 m pc' ls' st')) :
    W p l e R s m args below meth c H locs cells slots Q (F0 m pc ls st) := by
  obtain ⟨hkN, hx, hb, hml, hown, hts, hret, hlk, hnm, hRf, hRl, hAO⟩ := C
  obtain ⟨hh, hP, hK, hD, hSS⟩ := Hp
  simp only [qstep] at hs
  split at hs <;> first | (cases hs; done) | skip
  rename_i x S1
  simp only [Option.some.injEq, Prod.mk.injEq] at hs
  obtain ⟨rfl, rfl, rfl, rfl⟩ := hs
  simp only [qok, qdec, Bool.and_eq_true, Bool.or_eq_true, decide_eq_true_eq] at hok
  obtain ⟨q, st, rfl, hq, hS⟩ := qsr_ref hS
  obtain ⟨h1, h2⟩ := hok
  exact lv_ifnonnull hx hb h1 (by omega) (kk ws tys H locs ls _ cells slots qext_rf ⟨hh, hP, hK, hD, hSS⟩ hL hS hc1 hc2)
theorem qs_20 {p : Program} {l : Launch} {e : Env} {R : Room} {s : State} {m : MethodId} {args : Array Value} {below : List Frame} {meth : Method} {c : Code} {H : Heap} {locs : List Loc} {cells slots : Nat} {Q : State → Prop} {D : va_G} {A : Nat → Prop} {k pc b nx : Nat} {a : Int} {cl : List Nat} {L S : List qA} {σ : qM} {pc' : Nat} {L' S' : List qA} {σ' : qM} {n0 z0 : Nat} {ws : va_W} {tys : List (ClassId × FieldType)} {ls : Array Slot} {st : List Value}
    (hok : qok k pc (20, a, b, cl, nx) = true) (hs : qstep 20 a b cl nx pc L S σ = some (pc', L', S', σ')) (hr1 : σ'.1.length ≤ n0 + R.cells) (hr2 : qsz σ'.1 ≤ z0 + R.slots) (C : qCtx p s m args meth c R k) (Hp : qHp D A s ws tys σ H locs) (hL : qlr k ws L ls) (hS : qsr ws S st) (hc1 : cells + n0 = σ.1.length) (hc2 : slots + z0 = qsz σ.1) (hA : ∀ q, s.heap.size ≤ q → A q) (hNl : L.length = qNl k)
    (kk : ∀ (ws' : va_W) (tys' : List (ClassId × FieldType)) (H' : Heap) (locs' : List Loc) (ls' : Array Slot) (st' : List Value) (cells' slots' : Nat), qext ws ws' → qHp D A s ws' tys' σ' H' locs' → qlr k ws' L' ls' → qsr ws' S' st' → cells' + n0 = σ'.1.length → slots' + z0 = qsz σ'.1 → W p l e R s m args below meth c H' locs' cells' slots' Q (F0 m pc' ls' st')) :
    W p l e R s m args below meth c H locs cells slots Q (F0 m pc ls st) := by
  obtain ⟨hkN, hx, hb, hml, hown, hts, hret, hlk, hnm, hRf, hRl, hAO⟩ := C
  obtain ⟨hh, hP, hK, hD, hSS⟩ := Hp
  simp only [qstep] at hs
  split at hs <;> first | (cases hs; done) | skip
  rename_i x S1
  simp only [Option.some.injEq, Prod.mk.injEq] at hs
  obtain ⟨hpc, rfl, rfl, rfl⟩ := hs
  simp only [qok, qdec, Bool.and_eq_true, Bool.or_eq_true, decide_eq_true_eq] at hok
  obtain ⟨st, rfl, hq, hS⟩ := qsr_int hS
  by_cases hin : a ≤ x ∧ x < a + cl.length
  · rw [if_pos hin] at hpc
    have hi : (x - a).toNat < cl.length := by omega
    have ho : (cl.map (fun (t : Nat) => (t : Int) - pc)).toArray[((Int32.ofInt x).toInt - a).toNat]? = some ((pc' : Int) - pc) := by
      rw [qti hq, List.getElem?_toArray, List.getElem?_map, List.getElem?_eq_getElem hi, ← hpc, List.getD_eq_getElem?_getD, List.getElem?_eq_getElem hi]
      rfl
    exact lv_tableIn hx hb hok (by rw [qti hq]; omega) (by rw [qti hq]; omega) ho (by omega) (kk ws tys H locs ls _ cells slots qext_rf ⟨hh, hP, hK, hD, hSS⟩ hL hS hc1 hc2)
  · rw [if_neg hin] at hpc
    subst hpc
    exact lv_tableOut hx hb hok (by rw [qti hq]; omega) (by omega) (kk ws tys H locs ls _ cells slots qext_rf ⟨hh, hP, hK, hD, hSS⟩ hL hS hc1 hc2)
theorem qs_21 {p : Program} {l : Launch} {e : Env} {R : Room} {s : State} {m : MethodId} {args : Array Value} {below : List Frame} {meth : Method} {c : Code} {H : Heap} {locs : List Loc} {cells slots : Nat} {Q : State → Prop} {D : va_G} {A : Nat → Prop} {k pc b nx : Nat} {a : Int} {cl : List Nat} {L S : List qA} {σ : qM} {pc' : Nat} {L' S' : List qA} {σ' : qM} {n0 z0 : Nat} {ws : va_W} {tys : List (ClassId × FieldType)} {ls : Array Slot} {st : List Value}
    (hok : qok k pc (21, a, b, cl, nx) = true) (hs : qstep 21 a b cl nx pc L S σ = some (pc', L', S', σ')) (hr1 : σ'.1.length ≤ n0 + R.cells) (hr2 : qsz σ'.1 ≤ z0 + R.slots) (C : qCtx p s m args meth c R k) (Hp : qHp D A s ws tys σ H locs) (hL : qlr k ws L ls) (hS : qsr ws S st) (hc1 : cells + n0 = σ.1.length) (hc2 : slots + z0 = qsz σ.1) (hA : ∀ q, s.heap.size ≤ q → A q) (hNl : L.length = qNl k)
    (kk : ∀ (ws' : va_W) (tys' : List (ClassId × FieldType)) (H' : Heap) (locs' : List Loc) (ls' : Array Slot) (st' : List Value) (cells' slots' : Nat), qext ws ws' → qHp D A s ws' tys' σ' H' locs' → qlr k ws' L' ls' → qsr ws' S' st' → cells' + n0 = σ'.1.length → slots' + z0 = qsz σ'.1 → W p l e R s m args below meth c H' locs' cells' slots' Q (F0 m pc' ls' st')) :
    W p l e R s m args below meth c H locs cells slots Q (F0 m pc ls st) := by
  obtain ⟨hkN, hx, hb, hml, hown, hts, hret, hlk, hnm, hRf, hRl, hAO⟩ := C
  obtain ⟨hh, hP, hK, hD, hSS⟩ := Hp
  simp only [qstep] at hs
  split at hs <;> first | (cases hs; done) | skip
  rename_i k0 S1
  rw [Option.ite_none_right_eq_some] at hs
  obtain ⟨⟨ha0, hkd, hfs⟩, hs⟩ := hs
  simp only [Option.some.injEq, Prod.mk.injEq] at hs
  obtain ⟨rfl, rfl, rfl, rfl⟩ := hs
  simp only [qok, qdec, Bool.and_eq_true, decide_eq_true_eq] at hok
  obtain ⟨q, st, rfl, hq, hS⟩ := qsr_ref hS
  obtain ⟨e0, he, hcr⟩ := qhr_at hh hkd hq
  obtain ⟨fs, rfl, hlen, hI, hRR⟩ := hcr
  have hci := qfs_lt hfs
  have haz : ((a.toNat : Nat) : Int) = a := Int.toNat_of_nonneg ha0
  obtain ⟨⟨h1, h2⟩, h3⟩ := hok
  subst h2
  obtain ⟨hv, hvi⟩ := hI _ hfs
  rw [haz] at hv hvi
  exact va_get (D := D) hx hb hts (qu_all hci) hown hK hP k0 he (qvw hci) a.toNat (qfs_j hfs) (hts _ (qfl_at h3)) (fun _ h9 => h9) hv h1 (kk ws tys H locs ls _ cells slots qext_rf ⟨hh, hP, hK, hD, hSS⟩ hL ⟨⟨rfl, hvi⟩, hS⟩ hc1 hc2)
theorem qs_22 {p : Program} {l : Launch} {e : Env} {R : Room} {s : State} {m : MethodId} {args : Array Value} {below : List Frame} {meth : Method} {c : Code} {H : Heap} {locs : List Loc} {cells slots : Nat} {Q : State → Prop} {D : va_G} {A : Nat → Prop} {k pc b nx : Nat} {a : Int} {cl : List Nat} {L S : List qA} {σ : qM} {pc' : Nat} {L' S' : List qA} {σ' : qM} {n0 z0 : Nat} {ws : va_W} {tys : List (ClassId × FieldType)} {ls : Array Slot} {st : List Value}
    (hok : qok k pc (22, a, b, cl, nx) = true) (hs : qstep 22 a b cl nx pc L S σ = some (pc', L', S', σ')) (hr1 : σ'.1.length ≤ n0 + R.cells) (hr2 : qsz σ'.1 ≤ z0 + R.slots) (C : qCtx p s m args meth c R k) (Hp : qHp D A s ws tys σ H locs) (hL : qlr k ws L ls) (hS : qsr ws S st) (hc1 : cells + n0 = σ.1.length) (hc2 : slots + z0 = qsz σ.1) (hA : ∀ q, s.heap.size ≤ q → A q) (hNl : L.length = qNl k)
    (kk : ∀ (ws' : va_W) (tys' : List (ClassId × FieldType)) (H' : Heap) (locs' : List Loc) (ls' : Array Slot) (st' : List Value) (cells' slots' : Nat), qext ws ws' → qHp D A s ws' tys' σ' H' locs' → qlr k ws' L' ls' → qsr ws' S' st' → cells' + n0 = σ'.1.length → slots' + z0 = qsz σ'.1 → W p l e R s m args below meth c H' locs' cells' slots' Q (F0 m pc' ls' st')) :
    W p l e R s m args below meth c H locs cells slots Q (F0 m pc ls st) := by
  obtain ⟨hkN, hx, hb, hml, hown, hts, hret, hlk, hnm, hRf, hRl, hAO⟩ := C
  obtain ⟨hh, hP, hK, hD, hSS⟩ := Hp
  simp only [qstep] at hs
  split at hs <;> first | (cases hs; done) | skip
  rename_i k0 S1
  rw [Option.ite_none_right_eq_some] at hs
  obtain ⟨⟨ha0, hkd, hfs⟩, hs⟩ := hs
  split at hs <;> first | (cases hs; done) | skip
  rename_i z hz
  simp only [Option.some.injEq, Prod.mk.injEq] at hs
  obtain ⟨rfl, rfl, rfl, rfl⟩ := hs
  simp only [qok, qdec, Bool.and_eq_true, decide_eq_true_eq] at hok
  obtain ⟨q, st, rfl, hq, hS⟩ := qsr_ref hS
  obtain ⟨e0, he, hcr⟩ := qhr_at hh hkd hq
  obtain ⟨fs, rfl, hlen, hI, hRR⟩ := hcr
  have hci := qfs_lt hfs
  have haz : ((a.toNat : Nat) : Int) = a := Int.toNat_of_nonneg ha0
  obtain ⟨⟨h1, h2⟩, h3⟩ := hok
  subst h2
  obtain ⟨zz, hz1, hv⟩ := hRR _ hfs
  rw [haz, hz] at hz1
  obtain ⟨qz, hqz, rfl⟩ := hz1
  exact va_get (D := D) hx hb hts (qu_all hci) hown hK hP k0 he (qvw hci) a.toNat (qfs_j hfs) (hts _ (qfl_at h3)) (fun _ h9 => h9) (v := .ref qz) hv h1 (kk ws tys H locs ls _ cells slots qext_rf ⟨hh, hP, hK, hD, hSS⟩ hL ⟨⟨qz, hqz, rfl⟩, hS⟩ hc1 hc2)
theorem qs_23 {p : Program} {l : Launch} {e : Env} {R : Room} {s : State} {m : MethodId} {args : Array Value} {below : List Frame} {meth : Method} {c : Code} {H : Heap} {locs : List Loc} {cells slots : Nat} {Q : State → Prop} {D : va_G} {A : Nat → Prop} {k pc b nx : Nat} {a : Int} {cl : List Nat} {L S : List qA} {σ : qM} {pc' : Nat} {L' S' : List qA} {σ' : qM} {n0 z0 : Nat} {ws : va_W} {tys : List (ClassId × FieldType)} {ls : Array Slot} {st : List Value}
    (hok : qok k pc (23, a, b, cl, nx) = true) (hs : qstep 23 a b cl nx pc L S σ = some (pc', L', S', σ')) (hr1 : σ'.1.length ≤ n0 + R.cells) (hr2 : qsz σ'.1 ≤ z0 + R.slots) (C : qCtx p s m args meth c R k) (Hp : qHp D A s ws tys σ H locs) (hL : qlr k ws L ls) (hS : qsr ws S st) (hc1 : cells + n0 = σ.1.length) (hc2 : slots + z0 = qsz σ.1) (hA : ∀ q, s.heap.size ≤ q → A q) (hNl : L.length = qNl k)
    (kk : ∀ (ws' : va_W) (tys' : List (ClassId × FieldType)) (H' : Heap) (locs' : List Loc) (ls' : Array Slot) (st' : List Value) (cells' slots' : Nat), qext ws ws' → qHp D A s ws' tys' σ' H' locs' → qlr k ws' L' ls' → qsr ws' S' st' → cells' + n0 = σ'.1.length → slots' + z0 = qsz σ'.1 → W p l e R s m args below meth c H' locs' cells' slots' Q (F0 m pc' ls' st')) :
    W p l e R s m args below meth c H locs cells slots Q (F0 m pc ls st) := by
  obtain ⟨hkN, hx, hb, hml, hown, hts, hret, hlk, hnm, hRf, hRl, hAO⟩ := C
  obtain ⟨hh, hP, hK, hD, hSS⟩ := Hp
  simp only [qstep] at hs
  split at hs <;> first | (cases hs; done) | skip
  rename_i x k0 S1
  rw [Option.ite_none_right_eq_some] at hs
  obtain ⟨⟨ha0, hkd, hfs⟩, hs⟩ := hs
  simp only [Option.some.injEq, Prod.mk.injEq] at hs
  obtain ⟨rfl, rfl, rfl, rfl⟩ := hs
  simp only [qok, qdec, Bool.and_eq_true, decide_eq_true_eq] at hok
  obtain ⟨st, rfl, hxi, hS⟩ := qsr_int hS
  obtain ⟨q, st, rfl, hq, hS⟩ := qsr_ref hS
  obtain ⟨e0, he, hcr⟩ := qhr_at hh hkd hq
  obtain ⟨fs, rfl, hlen, hI, hRR⟩ := hcr
  have hci := qfs_lt hfs
  have haz : ((a.toNat : Nat) : Int) = a := Int.toNat_of_nonneg ha0
  have hjl : a.toNat < fs.length := by rw [hlen]; exact qfs_j hfs
  obtain ⟨⟨⟨h1, h2⟩, h3⟩, h4⟩ := hok
  subst h2
  have hty := qty_all hci a.toNat (qfs_j hfs)
  rw [qty_int hfs] at hty
  refine va_put (D := D) (v := .int (Int32.ofInt x)) hx hb hts (qu_all hci) (qty (cl.headD 0)) (qty_all hci) (qnm_all hci) hown hK hP hD hSS k0 he (qvw hci) a.toNat (qfs_j hfs) (hts _ (qfl_at h3)) (fun _ h9 => h9) h4 hty rfl rfl hjl h1 (fun H1 locs1 hP1 hD1 hS1 => ?_)
  refine kk (ws.set k0 (q, .inr (cl.headD 0, fs.set a.toNat (.int (Int32.ofInt x))))) tys H1 locs1 ls _ cells slots (qext_set he) ⟨?_, hP1, hK, hD1, hS1⟩ (qlr_ext (qext_set he) hL) (qsr_ext (qext_set he) hS) hc1 hc2
  refine qhr_set (σ := σ) hh hkd he rfl (fun i hi => ⟨by funext j; simp [qup, hi], rfl⟩) ?_
  refine ⟨_, rfl, by rw [List.length_set]; exact hlen, fun j hj => ?_, fun j hj => ?_⟩
  · by_cases hja : a.toNat = j
    · subst hja
      rw [List.getElem?_set_self hjl]
      simp [qup, haz]
      exact hxi
    · rw [List.getElem?_set_ne hja]
      have hne : ¬ (j : Int) = a := by omega
      simp only [qup, if_true, hne, if_false]
      exact hI j hj
  · by_cases hja : a.toNat = j
    · subst hja
      rw [hfs] at hj
      cases hj
    · rw [List.getElem?_set_ne hja]
      obtain ⟨z, g1, g2⟩ := hRR j hj
      exact ⟨z, qrf_ext (qext_set he) g1, g2⟩
theorem qs_24 {p : Program} {l : Launch} {e : Env} {R : Room} {s : State} {m : MethodId} {args : Array Value} {below : List Frame} {meth : Method} {c : Code} {H : Heap} {locs : List Loc} {cells slots : Nat} {Q : State → Prop} {D : va_G} {A : Nat → Prop} {k pc b nx : Nat} {a : Int} {cl : List Nat} {L S : List qA} {σ : qM} {pc' : Nat} {L' S' : List qA} {σ' : qM} {n0 z0 : Nat} {ws : va_W} {tys : List (ClassId × FieldType)} {ls : Array Slot} {st : List Value}
    (hok : qok k pc (24, a, b, cl, nx) = true) (hs : qstep 24 a b cl nx pc L S σ = some (pc', L', S', σ')) (hr1 : σ'.1.length ≤ n0 + R.cells) (hr2 : qsz σ'.1 ≤ z0 + R.slots) (C : qCtx p s m args meth c R k) (Hp : qHp D A s ws tys σ H locs) (hL : qlr k ws L ls) (hS : qsr ws S st) (hc1 : cells + n0 = σ.1.length) (hc2 : slots + z0 = qsz σ.1) (hA : ∀ q, s.heap.size ≤ q → A q) (hNl : L.length = qNl k)
    (kk : ∀ (ws' : va_W) (tys' : List (ClassId × FieldType)) (H' : Heap) (locs' : List Loc) (ls' : Array Slot) (st' : List Value) (cells' slots' : Nat), qext ws ws' → qHp D A s ws' tys' σ' H' locs' → qlr k ws' L' ls' → qsr ws' S' st' → cells' + n0 = σ'.1.length → slots' + z0 = qsz σ'.1 → W p l e R s m args below meth c H' locs' cells' slots' Q (F0 m pc' ls' st')) :
    W p l e R s m args below meth c H locs cells slots Q (F0 m pc ls st) := by
  obtain ⟨hkN, hx, hb, hml, hown, hts, hret, hlk, hnm, hRf, hRl, hAO⟩ := C
  obtain ⟨hh, hP, hK, hD, hSS⟩ := Hp
  simp only [qstep] at hs
  split at hs <;> first | (cases hs; done) | skip
  rename_i x k0 S1
  rw [Option.ite_none_right_eq_some] at hs
  obtain ⟨⟨ha0, hkd, hfs⟩, hs⟩ := hs
  simp only [Option.some.injEq, Prod.mk.injEq] at hs
  obtain ⟨rfl, rfl, rfl, rfl⟩ := hs
  simp only [qok, qdec, Bool.and_eq_true, decide_eq_true_eq] at hok
  obtain ⟨qx, st, rfl, hxi, hS⟩ := qsr_ref hS
  obtain ⟨q, st, rfl, hq, hS⟩ := qsr_ref hS
  obtain ⟨e0, he, hcr⟩ := qhr_at hh hkd hq
  obtain ⟨fs, rfl, hlen, hI, hRR⟩ := hcr
  have hci := qfs_lt hfs
  have haz : ((a.toNat : Nat) : Int) = a := Int.toNat_of_nonneg ha0
  have hjl : a.toNat < fs.length := by rw [hlen]; exact qfs_j hfs
  obtain ⟨⟨⟨h1, h2⟩, h3⟩, h4, h5, h6⟩ := hok
  subst h2
  have hty := qty_all hci a.toNat (qfs_j hfs)
  have hn : narrow (qty (cl.headD 0) a.toNat) (.ref qx) = .ref qx := by rcases qty_ref hfs with ⟨n, h⟩ | ⟨n, h⟩ <;> rw [h] <;> rfl
  have hf : fits (qty (cl.headD 0) a.toNat) (.ref qx) = true := by rcases qty_ref hfs with ⟨n, h⟩ | ⟨n, h⟩ <;> rw [h] <;> rfl
  refine va_putF (D := D) (v := .ref qx) hx hb hts (qu_all hci) (qty (cl.headD 0)) (qty_all hci) (qnm_all hci) hown hK hP hD hSS k0 he (qvw hci) a.toNat (qfs_j hfs) (hts _ (qfl_at h3)) (fun _ h9 => h9) h4 (hnm.trans h5) h6 hty hn hf hjl h1 (fun H1 locs1 hP1 hD1 hS1 => ?_)
  refine kk (ws.set k0 (q, .inr (cl.headD 0, fs.set a.toNat (.ref qx)))) tys H1 locs1 ls _ cells slots (qext_set he) ⟨?_, hP1, hK, hD1, hS1⟩ (qlr_ext (qext_set he) hL) (qsr_ext (qext_set he) hS) hc1 hc2
  refine qhr_set (σ := σ) hh hkd he rfl (fun i hi => ⟨rfl, by funext j; simp [qup, hi]⟩) ?_
  refine ⟨_, rfl, by rw [List.length_set]; exact hlen, fun j hj => ?_, fun j hj => ?_⟩
  · by_cases hja : a.toNat = j
    · subst hja
      rw [hfs] at hj
      cases hj
    · rw [List.getElem?_set_ne hja]
      exact hI j hj
  · by_cases hja : a.toNat = j
    · subst hja
      rw [List.getElem?_set_self hjl]
      exact ⟨some qx, by simp only [qup, if_true, haz]; exact ⟨qx, qext_set he _ _ hxi, rfl⟩, rfl⟩
    · rw [List.getElem?_set_ne hja]
      have hne : ¬ (j : Int) = a := by omega
      simp only [qup, if_true, hne, if_false]
      obtain ⟨z, g1, g2⟩ := hRR j hj
      exact ⟨z, qrf_ext (qext_set he) g1, g2⟩
theorem qs_25 {p : Program} {l : Launch} {e : Env} {R : Room} {s : State} {m : MethodId} {args : Array Value} {below : List Frame} {meth : Method} {c : Code} {H : Heap} {locs : List Loc} {cells slots : Nat} {Q : State → Prop} {D : va_G} {A : Nat → Prop} {k pc b nx : Nat} {a : Int} {cl : List Nat} {L S : List qA} {σ : qM} {pc' : Nat} {L' S' : List qA} {σ' : qM} {n0 z0 : Nat} {ws : va_W} {tys : List (ClassId × FieldType)} {ls : Array Slot} {st : List Value}
    (hok : qok k pc (25, a, b, cl, nx) = true) (hs : qstep 25 a b cl nx pc L S σ = some (pc', L', S', σ')) (hr1 : σ'.1.length ≤ n0 + R.cells) (hr2 : qsz σ'.1 ≤ z0 + R.slots) (C : qCtx p s m args meth c R k) (Hp : qHp D A s ws tys σ H locs) (hL : qlr k ws L ls) (hS : qsr ws S st) (hc1 : cells + n0 = σ.1.length) (hc2 : slots + z0 = qsz σ.1) (hA : ∀ q, s.heap.size ≤ q → A q) (hNl : L.length = qNl k)
    (kk : ∀ (ws' : va_W) (tys' : List (ClassId × FieldType)) (H' : Heap) (locs' : List Loc) (ls' : Array Slot) (st' : List Value) (cells' slots' : Nat), qext ws ws' → qHp D A s ws' tys' σ' H' locs' → qlr k ws' L' ls' → qsr ws' S' st' → cells' + n0 = σ'.1.length → slots' + z0 = qsz σ'.1 → W p l e R s m args below meth c H' locs' cells' slots' Q (F0 m pc' ls' st')) :
    W p l e R s m args below meth c H locs cells slots Q (F0 m pc ls st) := by
  obtain ⟨hkN, hx, hb, hml, hown, hts, hret, hlk, hnm, hRf, hRl, hAO⟩ := C
  obtain ⟨hh, hP, hK, hD, hSS⟩ := Hp
  simp only [qstep] at hs
  split at hs <;> first | (cases hs; done) | skip
  split at hs <;> first | (cases hs; done) | skip
  rename_i i k0 S1 x9 n hkd
  rw [Option.ite_none_right_eq_some] at hs
  obtain ⟨⟨hi0, hi1⟩, hs⟩ := hs
  simp only [Option.some.injEq, Prod.mk.injEq] at hs
  obtain ⟨rfl, rfl, rfl, rfl⟩ := hs
  simp only [qok, qdec, Bool.and_eq_true, decide_eq_true_eq] at hok
  obtain ⟨h1, h2⟩ := hok
  subst h2
  obtain ⟨st, rfl, hxi, hS⟩ := qsr_int hS
  obtain ⟨q, st, rfl, hq, hS⟩ := qsr_ref hS
  obtain ⟨e0, he, cA, f, rfl, ht, hn, hf⟩ := qhr_at hh hkd hq
  obtain ⟨t0, ht0⟩ := qmem_at ht
  have haz : ((i.toNat : Nat) : Int) = i := Int.toNat_of_nonneg hi0
  obtain ⟨hv, hvi⟩ := hf i.toNat (by omega)
  rw [haz] at hv hvi
  refine va_iald hx hb hK hP k0 t0 he ht0 (qvin hi0 hi1 hn) h1 (kk ws tys H locs ls _ cells slots qext_rf ⟨hh, hP, hK, hD, hSS⟩ hL ⟨⟨?_, hvi⟩, hS⟩ hc1 hc2)
  rw [qclamp hi0 hxi, hv]
theorem qs_26 {p : Program} {l : Launch} {e : Env} {R : Room} {s : State} {m : MethodId} {args : Array Value} {below : List Frame} {meth : Method} {c : Code} {H : Heap} {locs : List Loc} {cells slots : Nat} {Q : State → Prop} {D : va_G} {A : Nat → Prop} {k pc b nx : Nat} {a : Int} {cl : List Nat} {L S : List qA} {σ : qM} {pc' : Nat} {L' S' : List qA} {σ' : qM} {n0 z0 : Nat} {ws : va_W} {tys : List (ClassId × FieldType)} {ls : Array Slot} {st : List Value}
    (hok : qok k pc (26, a, b, cl, nx) = true) (hs : qstep 26 a b cl nx pc L S σ = some (pc', L', S', σ')) (hr1 : σ'.1.length ≤ n0 + R.cells) (hr2 : qsz σ'.1 ≤ z0 + R.slots) (C : qCtx p s m args meth c R k) (Hp : qHp D A s ws tys σ H locs) (hL : qlr k ws L ls) (hS : qsr ws S st) (hc1 : cells + n0 = σ.1.length) (hc2 : slots + z0 = qsz σ.1) (hA : ∀ q, s.heap.size ≤ q → A q) (hNl : L.length = qNl k)
    (kk : ∀ (ws' : va_W) (tys' : List (ClassId × FieldType)) (H' : Heap) (locs' : List Loc) (ls' : Array Slot) (st' : List Value) (cells' slots' : Nat), qext ws ws' → qHp D A s ws' tys' σ' H' locs' → qlr k ws' L' ls' → qsr ws' S' st' → cells' + n0 = σ'.1.length → slots' + z0 = qsz σ'.1 → W p l e R s m args below meth c H' locs' cells' slots' Q (F0 m pc' ls' st')) :
    W p l e R s m args below meth c H locs cells slots Q (F0 m pc ls st) := by
  obtain ⟨hkN, hx, hb, hml, hown, hts, hret, hlk, hnm, hRf, hRl, hAO⟩ := C
  obtain ⟨hh, hP, hK, hD, hSS⟩ := Hp
  simp only [qstep] at hs
  split at hs <;> first | (cases hs; done) | skip
  split at hs <;> first | (cases hs; done) | skip
  rename_i x i k0 S1 x9 n hkd
  rw [Option.ite_none_right_eq_some] at hs
  obtain ⟨⟨hi0, hi1⟩, hs⟩ := hs
  simp only [Option.some.injEq, Prod.mk.injEq] at hs
  obtain ⟨rfl, rfl, rfl, rfl⟩ := hs
  simp only [qok, qdec, Bool.and_eq_true, decide_eq_true_eq] at hok
  obtain ⟨h1, h2⟩ := hok
  subst h2
  obtain ⟨st, rfl, hxx, hS⟩ := qsr_int hS
  obtain ⟨st, rfl, hxi, hS⟩ := qsr_int hS
  obtain ⟨q, st, rfl, hq, hS⟩ := qsr_ref hS
  obtain ⟨e0, he, cA, f, rfl, ht, hn, hf⟩ := qhr_at hh hkd hq
  obtain ⟨t0, ht0⟩ := qmem_at ht
  refine va_iast hx hb hK hP hD hSS k0 t0 he ht0 (qvin hi0 hi1 hn) h1 (fun H1 locs1 hP1 hD1 hS1 => ?_)
  refine kk _ tys H1 locs1 ls _ cells slots (qext_set he) ⟨?_, hP1, hK, hD1, hS1⟩ (qlr_ext (qext_set he) hL) (qsr_ext (qext_set he) hS) hc1 hc2
  refine qhr_set (σ := σ) hh hkd he rfl (fun j hj => ⟨by funext j2; simp [qup, hj], rfl⟩) ?_
  refine ⟨cA, _, rfl, ht, hn, fun j hj => ?_⟩
  rw [qclamp hi0 hxi]
  by_cases hja : (j : Int) = i
  · have hj2 : j = i.toNat := by omega
    subst hj2
    simp only [qup, upd, if_true, hja]
    exact ⟨trivial, hxx⟩
  · have hj2 : ¬ j = i.toNat := by omega
    simp only [qup, upd, if_true, hja, hj2, if_false]
    exact hf j hj
theorem qs_27 {p : Program} {l : Launch} {e : Env} {R : Room} {s : State} {m : MethodId} {args : Array Value} {below : List Frame} {meth : Method} {c : Code} {H : Heap} {locs : List Loc} {cells slots : Nat} {Q : State → Prop} {D : va_G} {A : Nat → Prop} {k pc b nx : Nat} {a : Int} {cl : List Nat} {L S : List qA} {σ : qM} {pc' : Nat} {L' S' : List qA} {σ' : qM} {n0 z0 : Nat} {ws : va_W} {tys : List (ClassId × FieldType)} {ls : Array Slot} {st : List Value}
    (hok : qok k pc (27, a, b, cl, nx) = true) (hs : qstep 27 a b cl nx pc L S σ = some (pc', L', S', σ')) (hr1 : σ'.1.length ≤ n0 + R.cells) (hr2 : qsz σ'.1 ≤ z0 + R.slots) (C : qCtx p s m args meth c R k) (Hp : qHp D A s ws tys σ H locs) (hL : qlr k ws L ls) (hS : qsr ws S st) (hc1 : cells + n0 = σ.1.length) (hc2 : slots + z0 = qsz σ.1) (hA : ∀ q, s.heap.size ≤ q → A q) (hNl : L.length = qNl k)
    (kk : ∀ (ws' : va_W) (tys' : List (ClassId × FieldType)) (H' : Heap) (locs' : List Loc) (ls' : Array Slot) (st' : List Value) (cells' slots' : Nat), qext ws ws' → qHp D A s ws' tys' σ' H' locs' → qlr k ws' L' ls' → qsr ws' S' st' → cells' + n0 = σ'.1.length → slots' + z0 = qsz σ'.1 → W p l e R s m args below meth c H' locs' cells' slots' Q (F0 m pc' ls' st')) :
    W p l e R s m args below meth c H locs cells slots Q (F0 m pc ls st) := by
  obtain ⟨hkN, hx, hb, hml, hown, hts, hret, hlk, hnm, hRf, hRl, hAO⟩ := C
  obtain ⟨hh, hP, hK, hD, hSS⟩ := Hp
  simp only [qstep] at hs
  split at hs <;> first | (cases hs; done) | skip
  split at hs <;> first | (cases hs; done) | skip
  rename_i i k0 S1 x9 ci n hkd
  rw [Option.ite_none_right_eq_some] at hs
  obtain ⟨⟨hi0, hi1⟩, hs⟩ := hs
  split at hs <;> first | (cases hs; done) | skip
  rename_i z hz
  simp only [Option.some.injEq, Prod.mk.injEq] at hs
  obtain ⟨rfl, rfl, rfl, rfl⟩ := hs
  simp only [qok, qdec, Bool.and_eq_true, decide_eq_true_eq] at hok
  obtain ⟨h1, h2⟩ := hok
  subst h2
  obtain ⟨st, rfl, hxi, hS⟩ := qsr_int hS
  obtain ⟨q, st, rfl, hq, hS⟩ := qsr_ref hS
  obtain ⟨e0, he, cA, f, rfl, ht, hn, hf⟩ := qhr_at hh hkd hq
  obtain ⟨t0, ht0⟩ := qmem_at ht
  have haz : ((i.toNat : Nat) : Int) = i := Int.toNat_of_nonneg hi0
  have hv := hf i.toNat (by omega)
  rw [haz, hz] at hv
  obtain ⟨qz, hqz, hv⟩ := hv
  refine va_aldq hx hb hK hP k0 t0 he ht0 (qvin hi0 hi1 hn) h1 ?_
  rw [qclamp hi0 hxi, hv]
  exact kk ws tys H locs ls _ cells slots qext_rf ⟨hh, hP, hK, hD, hSS⟩ hL ⟨⟨qz, hqz, rfl⟩, hS⟩ hc1 hc2
theorem qs_28 {p : Program} {l : Launch} {e : Env} {R : Room} {s : State} {m : MethodId} {args : Array Value} {below : List Frame} {meth : Method} {c : Code} {H : Heap} {locs : List Loc} {cells slots : Nat} {Q : State → Prop} {D : va_G} {A : Nat → Prop} {k pc b nx : Nat} {a : Int} {cl : List Nat} {L S : List qA} {σ : qM} {pc' : Nat} {L' S' : List qA} {σ' : qM} {n0 z0 : Nat} {ws : va_W} {tys : List (ClassId × FieldType)} {ls : Array Slot} {st : List Value}
    (hok : qok k pc (28, a, b, cl, nx) = true) (hs : qstep 28 a b cl nx pc L S σ = some (pc', L', S', σ')) (hr1 : σ'.1.length ≤ n0 + R.cells) (hr2 : qsz σ'.1 ≤ z0 + R.slots) (C : qCtx p s m args meth c R k) (Hp : qHp D A s ws tys σ H locs) (hL : qlr k ws L ls) (hS : qsr ws S st) (hc1 : cells + n0 = σ.1.length) (hc2 : slots + z0 = qsz σ.1) (hA : ∀ q, s.heap.size ≤ q → A q) (hNl : L.length = qNl k)
    (kk : ∀ (ws' : va_W) (tys' : List (ClassId × FieldType)) (H' : Heap) (locs' : List Loc) (ls' : Array Slot) (st' : List Value) (cells' slots' : Nat), qext ws ws' → qHp D A s ws' tys' σ' H' locs' → qlr k ws' L' ls' → qsr ws' S' st' → cells' + n0 = σ'.1.length → slots' + z0 = qsz σ'.1 → W p l e R s m args below meth c H' locs' cells' slots' Q (F0 m pc' ls' st')) :
    W p l e R s m args below meth c H locs cells slots Q (F0 m pc ls st) := by
  obtain ⟨hkN, hx, hb, hml, hown, hts, hret, hlk, hnm, hRf, hRl, hAO⟩ := C
  obtain ⟨hh, hP, hK, hD, hSS⟩ := Hp
  simp only [qstep] at hs
  split at hs <;> first | (cases hs; done) | skip
  split at hs <;> first | (cases hs; done) | skip
  rename_i x i k0 S1 x9 ci n hkd
  rw [Option.ite_none_right_eq_some] at hs
  obtain ⟨⟨hi0, hi1, hxk⟩, hs⟩ := hs
  simp only [Option.some.injEq, Prod.mk.injEq] at hs
  obtain ⟨rfl, rfl, rfl, rfl⟩ := hs
  simp only [qok, qdec, Bool.and_eq_true, decide_eq_true_eq] at hok
  obtain ⟨h1, h2⟩ := hok
  subst h2
  obtain ⟨qx, st, rfl, hxx, hS⟩ := qsr_ref hS
  obtain ⟨st, rfl, hxi, hS⟩ := qsr_int hS
  obtain ⟨q, st, rfl, hq, hS⟩ := qsr_ref hS
  obtain ⟨e0, he, cA, f, rfl, ht, hn, hf⟩ := qhr_at hh hkd hq
  obtain ⟨e1, he1, fs1, rfl, hl1, hI1, hR1⟩ := qhr_at hh hxk hxx
  obtain ⟨t0, ht0⟩ := qmem_at ht
  have hci : ci < 8 := by
    obtain ⟨rv, hrv, -⟩ := hP _ _ he1
    have h9 := (List.getElem?_eq_some_iff.mp hrv).1
    exact h9
  refine va_astq hx hb hK hP hD hSS k0 t0 x ci (r := (qR ci, qT ci, (qfs ci).length)) he ht0 he1 (qvw hci) (qvin hi0 hi1 hn) h1 (fun H1 locs1 hP1 hD1 hS1 => ?_)
  refine kk _ tys H1 locs1 ls _ cells slots (qext_set he) ⟨?_, hP1, hK, hD1, hS1⟩ (qlr_ext (qext_set he) hL) (qsr_ext (qext_set he) hS) hc1 hc2
  refine qhr_set (σ := σ) hh hkd he rfl (fun j hj => ⟨rfl, by funext j2; simp [qup, hj]⟩) ?_
  refine ⟨cA, _, rfl, ht, hn, fun j hj => ?_⟩
  rw [qclamp hi0 hxi]
  by_cases hja : (j : Int) = i
  · have hj2 : j = i.toNat := by omega
    subst hj2
    simp only [qup, va_up, if_true, hja]
    exact ⟨qx, qext_set he _ _ hxx, rfl⟩
  · have hj2 : ¬ j = i.toNat := by omega
    simp only [qup, va_up, if_true, hja, hj2, if_false]
    exact qrf_ext (qext_set he) (hf j hj)
theorem qs_29 {p : Program} {l : Launch} {e : Env} {R : Room} {s : State} {m : MethodId} {args : Array Value} {below : List Frame} {meth : Method} {c : Code} {H : Heap} {locs : List Loc} {cells slots : Nat} {Q : State → Prop} {D : va_G} {A : Nat → Prop} {k pc b nx : Nat} {a : Int} {cl : List Nat} {L S : List qA} {σ : qM} {pc' : Nat} {L' S' : List qA} {σ' : qM} {n0 z0 : Nat} {ws : va_W} {tys : List (ClassId × FieldType)} {ls : Array Slot} {st : List Value}
    (hok : qok k pc (29, a, b, cl, nx) = true) (hs : qstep 29 a b cl nx pc L S σ = some (pc', L', S', σ')) (hr1 : σ'.1.length ≤ n0 + R.cells) (hr2 : qsz σ'.1 ≤ z0 + R.slots) (C : qCtx p s m args meth c R k) (Hp : qHp D A s ws tys σ H locs) (hL : qlr k ws L ls) (hS : qsr ws S st) (hc1 : cells + n0 = σ.1.length) (hc2 : slots + z0 = qsz σ.1) (hA : ∀ q, s.heap.size ≤ q → A q) (hNl : L.length = qNl k)
    (kk : ∀ (ws' : va_W) (tys' : List (ClassId × FieldType)) (H' : Heap) (locs' : List Loc) (ls' : Array Slot) (st' : List Value) (cells' slots' : Nat), qext ws ws' → qHp D A s ws' tys' σ' H' locs' → qlr k ws' L' ls' → qsr ws' S' st' → cells' + n0 = σ'.1.length → slots' + z0 = qsz σ'.1 → W p l e R s m args below meth c H' locs' cells' slots' Q (F0 m pc' ls' st')) :
    W p l e R s m args below meth c H locs cells slots Q (F0 m pc ls st) := by
  obtain ⟨hkN, hx, hb, hml, hown, hts, hret, hlk, hnm, hRf, hRl, hAO⟩ := C
  obtain ⟨hh, hP, hK, hD, hSS⟩ := Hp
  simp only [qstep] at hs
  split at hs <;> first | (cases hs; done) | skip
  split at hs <;> first | (cases hs; done) | skip
  rename_i k0 S1 x9 ci n hkd
  simp only [Option.some.injEq, Prod.mk.injEq] at hs
  obtain ⟨rfl, rfl, rfl, rfl⟩ := hs
  simp only [qok, qdec, Bool.and_eq_true, decide_eq_true_eq] at hok
  obtain ⟨h1, h2⟩ := hok
  subst h2
  obtain ⟨q, st, rfl, hq, hS⟩ := qsr_ref hS
  obtain ⟨e0, he, hcr⟩ := qhr_at hh hkd hq
  cases ci with
  | zero =>
    obtain ⟨cA, f, rfl, ht, hn, hf⟩ := hcr
    obtain ⟨t0, ht0⟩ := qmem_at ht
    exact va_alen hx hb hK hP k0 t0 he ht0 (Int32.ofInt_eq_ofNat).symm h1 (kk ws tys H locs ls _ cells slots qext_rf ⟨hh, hP, hK, hD, hSS⟩ hL ⟨⟨rfl, by constructor <;> omega⟩, hS⟩ hc1 hc2)
  | succ ci =>
    obtain ⟨cA, f, rfl, ht, hn, hf⟩ := hcr
    obtain ⟨t0, ht0⟩ := qmem_at ht
    exact va_alen hx hb hK hP k0 t0 he ht0 (Int32.ofInt_eq_ofNat).symm h1 (kk ws tys H locs ls _ cells slots qext_rf ⟨hh, hP, hK, hD, hSS⟩ hL ⟨⟨rfl, by constructor <;> omega⟩, hS⟩ hc1 hc2)
theorem qs_30 {p : Program} {l : Launch} {e : Env} {R : Room} {s : State} {m : MethodId} {args : Array Value} {below : List Frame} {meth : Method} {c : Code} {H : Heap} {locs : List Loc} {cells slots : Nat} {Q : State → Prop} {D : va_G} {A : Nat → Prop} {k pc b nx : Nat} {a : Int} {cl : List Nat} {L S : List qA} {σ : qM} {pc' : Nat} {L' S' : List qA} {σ' : qM} {n0 z0 : Nat} {ws : va_W} {tys : List (ClassId × FieldType)} {ls : Array Slot} {st : List Value}
    (hok : qok k pc (30, a, b, cl, nx) = true) (hs : qstep 30 a b cl nx pc L S σ = some (pc', L', S', σ')) (hr1 : σ'.1.length ≤ n0 + R.cells) (hr2 : qsz σ'.1 ≤ z0 + R.slots) (C : qCtx p s m args meth c R k) (Hp : qHp D A s ws tys σ H locs) (hL : qlr k ws L ls) (hS : qsr ws S st) (hc1 : cells + n0 = σ.1.length) (hc2 : slots + z0 = qsz σ.1) (hA : ∀ q, s.heap.size ≤ q → A q) (hNl : L.length = qNl k)
    (kk : ∀ (ws' : va_W) (tys' : List (ClassId × FieldType)) (H' : Heap) (locs' : List Loc) (ls' : Array Slot) (st' : List Value) (cells' slots' : Nat), qext ws ws' → qHp D A s ws' tys' σ' H' locs' → qlr k ws' L' ls' → qsr ws' S' st' → cells' + n0 = σ'.1.length → slots' + z0 = qsz σ'.1 → W p l e R s m args below meth c H' locs' cells' slots' Q (F0 m pc' ls' st')) :
    W p l e R s m args below meth c H locs cells slots Q (F0 m pc ls st) := by
  obtain ⟨hkN, hx, hb, hml, hown, hts, hret, hlk, hnm, hRf, hRl, hAO⟩ := C
  obtain ⟨hh, hP, hK, hD, hSS⟩ := Hp
  simp only [qstep] at hs
  split at hs <;> first | (cases hs; done) | skip
  rename_i n S1
  rw [Option.ite_none_right_eq_some] at hs
  obtain ⟨⟨hn0, hn1⟩, hs⟩ := hs
  simp only [Option.some.injEq, Prod.mk.injEq] at hs
  obtain ⟨rfl, rfl, rfl, rfl⟩ := hs
  simp only [qok, qdec, Bool.and_eq_true, decide_eq_true_eq] at hok
  obtain ⟨h1, h2⟩ := hok
  subst h2
  obtain ⟨st, rfl, hxi, hS⟩ := qsr_int hS
  have hz1 : (qold σ (1, n.toNat)).1.length = σ.1.length + 1 := by simp [qold]
  have hz2 : qsz (qold σ (1, n.toNat)).1 = qsz σ.1 + n.toNat := by simp [qold, qsz_app, qsz, qszk]
  have hat : ∀ (q : Nat) (e : va_E), qat (ws ++ [(q, e)]) σ.1.length q := fun q e => ⟨e, by rw [← hh.1]; simp⟩
  refine va_newa (atype := .int) hx hb (hts _ (qtb_at qw_arr rfl)) rfl hK hP hD hSS hA (a0 := (n.toNat, .inl (fun _ => 0))) (fun cA => rfl) (fun h => absurd ((qlt hxi q0in).mp h) (by omega)) (qclamp hn0 hxi) (by show n.toNat * 4 ≤ _; omega) (by omega) (by omega) h1 (fun q cA H1 hK1 hP1 hD1 hS1 => ?_)
  refine kk _ _ H1 locs ls _ _ _ qext_app ⟨qhr_new hh (fun x hx => List.mem_append_left _ hx) ?_, hP1, hK1, hD1, hS1⟩ (qlr_ext qext_app hL) ⟨⟨q, hat _ _, rfl⟩, qsr_ext qext_app hS⟩ (by omega) (by omega)
  exact ⟨cA, _, rfl, List.mem_append_right _ (List.mem_singleton.mpr rfl), by omega, fun j hj => ⟨rfl, q0in⟩⟩
theorem qs_31 {p : Program} {l : Launch} {e : Env} {R : Room} {s : State} {m : MethodId} {args : Array Value} {below : List Frame} {meth : Method} {c : Code} {H : Heap} {locs : List Loc} {cells slots : Nat} {Q : State → Prop} {D : va_G} {A : Nat → Prop} {k pc b nx : Nat} {a : Int} {cl : List Nat} {L S : List qA} {σ : qM} {pc' : Nat} {L' S' : List qA} {σ' : qM} {n0 z0 : Nat} {ws : va_W} {tys : List (ClassId × FieldType)} {ls : Array Slot} {st : List Value}
    (hok : qok k pc (31, a, b, cl, nx) = true) (hs : qstep 31 a b cl nx pc L S σ = some (pc', L', S', σ')) (hr1 : σ'.1.length ≤ n0 + R.cells) (hr2 : qsz σ'.1 ≤ z0 + R.slots) (C : qCtx p s m args meth c R k) (Hp : qHp D A s ws tys σ H locs) (hL : qlr k ws L ls) (hS : qsr ws S st) (hc1 : cells + n0 = σ.1.length) (hc2 : slots + z0 = qsz σ.1) (hA : ∀ q, s.heap.size ≤ q → A q) (hNl : L.length = qNl k)
    (kk : ∀ (ws' : va_W) (tys' : List (ClassId × FieldType)) (H' : Heap) (locs' : List Loc) (ls' : Array Slot) (st' : List Value) (cells' slots' : Nat), qext ws ws' → qHp D A s ws' tys' σ' H' locs' → qlr k ws' L' ls' → qsr ws' S' st' → cells' + n0 = σ'.1.length → slots' + z0 = qsz σ'.1 → W p l e R s m args below meth c H' locs' cells' slots' Q (F0 m pc' ls' st')) :
    W p l e R s m args below meth c H locs cells slots Q (F0 m pc ls st) := by
  obtain ⟨hkN, hx, hb, hml, hown, hts, hret, hlk, hnm, hRf, hRl, hAO⟩ := C
  obtain ⟨hh, hP, hK, hD, hSS⟩ := Hp
  simp only [qstep] at hs
  split at hs <;> first | (cases hs; done) | skip
  rename_i n S1
  rw [Option.ite_none_right_eq_some] at hs
  obtain ⟨⟨hn0, hn1⟩, hs⟩ := hs
  simp only [Option.some.injEq, Prod.mk.injEq] at hs
  obtain ⟨rfl, rfl, rfl, rfl⟩ := hs
  simp only [qok, qdec, Bool.and_eq_true, decide_eq_true_eq] at hok
  obtain ⟨⟨⟨h1, h2, h5⟩, h3⟩, h4⟩ := hok
  subst h2
  obtain ⟨st, rfl, hxi, hS⟩ := qsr_int hS
  have hz1 : (qold σ (cl.headD 0 + 2, n.toNat)).1.length = σ.1.length + 1 := by simp [qold]
  have hz2 : qsz (qold σ (cl.headD 0 + 2, n.toNat)).1 = qsz σ.1 + n.toNat := by simp [qold, qsz_app, qsz, qszk]
  have hat : ∀ (q : Nat) (e : va_E), qat (ws ++ [(q, e)]) σ.1.length q := fun q e => ⟨e, by rw [← hh.1]; simp⟩
  refine va_newq hx hb hown (hts _ (qcl_at h3)) (hAO _ h4) hK hP hD hSS hA (fun h => absurd ((qlt hxi q0in).mp h) (by omega)) (qclamp hn0 hxi) (by omega) (by omega) (by omega) h1 (fun q cA H1 hK1 hP1 hD1 hS1 => ?_)
  refine kk _ _ H1 locs ls _ _ _ qext_app ⟨qhr_new hh (fun x hx => List.mem_append_left _ hx) ?_, hP1, hK1, hD1, hS1⟩ (qlr_ext qext_app hL) ⟨⟨q, hat _ _, rfl⟩, qsr_ext qext_app hS⟩ (by omega) (by omega)
  exact ⟨cA, _, rfl, by simp, by omega, fun j hj => rfl⟩
theorem qs_32 {p : Program} {l : Launch} {e : Env} {R : Room} {s : State} {m : MethodId} {args : Array Value} {below : List Frame} {meth : Method} {c : Code} {H : Heap} {locs : List Loc} {cells slots : Nat} {Q : State → Prop} {D : va_G} {A : Nat → Prop} {k pc b nx : Nat} {a : Int} {cl : List Nat} {L S : List qA} {σ : qM} {pc' : Nat} {L' S' : List qA} {σ' : qM} {n0 z0 : Nat} {ws : va_W} {tys : List (ClassId × FieldType)} {ls : Array Slot} {st : List Value}
    (hok : qok k pc (32, a, b, cl, nx) = true) (hs : qstep 32 a b cl nx pc L S σ = some (pc', L', S', σ')) (hr1 : σ'.1.length ≤ n0 + R.cells) (hr2 : qsz σ'.1 ≤ z0 + R.slots) (C : qCtx p s m args meth c R k) (Hp : qHp D A s ws tys σ H locs) (hL : qlr k ws L ls) (hS : qsr ws S st) (hc1 : cells + n0 = σ.1.length) (hc2 : slots + z0 = qsz σ.1) (hA : ∀ q, s.heap.size ≤ q → A q) (hNl : L.length = qNl k)
    (kk : ∀ (ws' : va_W) (tys' : List (ClassId × FieldType)) (H' : Heap) (locs' : List Loc) (ls' : Array Slot) (st' : List Value) (cells' slots' : Nat), qext ws ws' → qHp D A s ws' tys' σ' H' locs' → qlr k ws' L' ls' → qsr ws' S' st' → cells' + n0 = σ'.1.length → slots' + z0 = qsz σ'.1 → W p l e R s m args below meth c H' locs' cells' slots' Q (F0 m pc' ls' st')) :
    W p l e R s m args below meth c H locs cells slots Q (F0 m pc ls st) := by
  obtain ⟨hkN, hx, hb, hml, hown, hts, hret, hlk, hnm, hRf, hRl, hAO⟩ := C
  obtain ⟨hh, hP, hK, hD, hSS⟩ := Hp
  simp only [qstep] at hs
  simp only [Option.some.injEq, Prod.mk.injEq] at hs
  obtain ⟨rfl, rfl, rfl, rfl⟩ := hs
  simp only [qok, qdec, Bool.and_eq_true, decide_eq_true_eq] at hok
  obtain ⟨⟨h1, h2, h5⟩, h3⟩ := hok
  subst h2
  have hz1 : (qold σ (0, cl.headD 0)).1.length = σ.1.length + 1 := by simp [qold]
  have hz2 : qsz (qold σ (0, cl.headD 0)).1 = qsz σ.1 + (qfs (cl.headD 0)).length := by simp [qold, qsz_app, qsz, qszk]
  have hat : ∀ (q : Nat) (e : va_E), qat (ws ++ [(q, e)]) σ.1.length q := fun q e => ⟨e, by rw [← hh.1]; simp⟩
  have hfs : ∀ j, j < (qfs (cl.headD 0)).length → defaultValue (qty (cl.headD 0) j) = vp_V ((qfs (cl.headD 0)).map (fun t => if t = true then Value.null else .int 0)) j := by
    intro j hj
    cases ht : (qfs (cl.headD 0))[j]? with
    | none => exact absurd (List.getElem?_eq_none_iff.mp ht) (by omega)
    | some t =>
      have hv : vp_V ((qfs (cl.headD 0)).map (fun t => if t = true then Value.null else .int 0)) j = if t = true then Value.null else .int 0 := by
        unfold vp_V
        rw [List.getD_eq_getElem?_getD, List.getElem?_map, ht]
        rfl
      rw [hv]
      cases t with
      | false => rw [qty_int ht]; rfl
      | true => rcases qty_ref ht with ⟨n, h⟩ | ⟨n, h⟩ <;> rw [h] <;> rfl
  refine va_new (ci := cl.headD 0) (fs := (qfs (cl.headD 0)).map (fun t => if t = true then Value.null else .int 0)) hx hb hts (qu_all h5) (qty (cl.headD 0)) (qty_all h5) hown (hts _ (qcl_at h3)) (hts _ ((qcp_at (Nat.lt_succ_of_lt h5)).1 h5)) (hts _ (qcp_at (Nat.lt_succ_of_lt h5)).2) hK hP hD hSS hA (qvw h5) hfs (by omega) (by omega) h1 (fun q H1 hP1 hD1 hS1 => ?_)
  refine kk _ _ H1 locs ls _ _ _ qext_app ⟨qhr_new hh (fun x hx => hx) ?_, hP1, hK, hD1, hS1⟩ (qlr_ext qext_app hL) ⟨⟨q, hat _ _, rfl⟩, qsr_ext qext_app hS⟩ (by omega) (by omega)
  refine ⟨_, rfl, by simp, fun j hj => ?_, fun j hj => ?_⟩
  · rw [List.getElem?_map, hj]
    exact ⟨rfl, q0in⟩
  · rw [List.getElem?_map, hj]
    exact ⟨none, rfl, rfl⟩
theorem qs_33 {p : Program} {l : Launch} {e : Env} {R : Room} {s : State} {m : MethodId} {args : Array Value} {below : List Frame} {meth : Method} {c : Code} {H : Heap} {locs : List Loc} {cells slots : Nat} {Q : State → Prop} {D : va_G} {A : Nat → Prop} {k pc b nx : Nat} {a : Int} {cl : List Nat} {L S : List qA} {σ : qM} {pc' : Nat} {L' S' : List qA} {σ' : qM} {n0 z0 : Nat} {ws : va_W} {tys : List (ClassId × FieldType)} {ls : Array Slot} {st : List Value}
    (hok : qok k pc (33, a, b, cl, nx) = true) (hs : qstep 33 a b cl nx pc L S σ = some (pc', L', S', σ')) (hr1 : σ'.1.length ≤ n0 + R.cells) (hr2 : qsz σ'.1 ≤ z0 + R.slots) (C : qCtx p s m args meth c R k) (Hp : qHp D A s ws tys σ H locs) (hL : qlr k ws L ls) (hS : qsr ws S st) (hc1 : cells + n0 = σ.1.length) (hc2 : slots + z0 = qsz σ.1) (hA : ∀ q, s.heap.size ≤ q → A q) (hNl : L.length = qNl k)
    (kk : ∀ (ws' : va_W) (tys' : List (ClassId × FieldType)) (H' : Heap) (locs' : List Loc) (ls' : Array Slot) (st' : List Value) (cells' slots' : Nat), qext ws ws' → qHp D A s ws' tys' σ' H' locs' → qlr k ws' L' ls' → qsr ws' S' st' → cells' + n0 = σ'.1.length → slots' + z0 = qsz σ'.1 → W p l e R s m args below meth c H' locs' cells' slots' Q (F0 m pc' ls' st')) :
    W p l e R s m args below meth c H locs cells slots Q (F0 m pc ls st) := by
  obtain ⟨hkN, hx, hb, hml, hown, hts, hret, hlk, hnm, hRf, hRl, hAO⟩ := C
  obtain ⟨hh, hP, hK, hD, hSS⟩ := Hp
  simp only [qstep] at hs
  split at hs <;> first | (cases hs; done) | skip
  rename_i y x S1
  rw [Option.ite_none_right_eq_some] at hs
  obtain ⟨hl8, hs⟩ := hs
  simp only [Option.some.injEq, Prod.mk.injEq] at hs
  obtain ⟨rfl, rfl, rfl, rfl⟩ := hs
  simp only [qok, qdec, Bool.and_eq_true, decide_eq_true_eq] at hok
  obtain ⟨⟨h1, h2, h5, h6⟩, h3⟩ := hok
  subst h2
  obtain ⟨st, rfl, hq, hS⟩ := qsr_int hS
  obtain ⟨st, rfl, hq1, hS⟩ := qsr_int hS
  obtain ⟨w1, w2, w3⟩ := qw_max
  have hcat := qsr_cat2 hS
  have hlen := qsr_len hS
  refine va_mmax hx hb (hml.trans (hL.1.trans hNl).symm) hown (hts _ (qmx_at h3)) (hts _ (qtb_at w1 rfl)) (hts _ (qtb_at w2 rfl)) (hts _ (qtb_at w3 rfl)) (by omega) (by omega) (by omega) (by omega) h1 ?_
  refine kk ws tys H locs ls _ cells slots qext_rf ⟨hh, hP, hK, hD, hSS⟩ hL ⟨?_, hS⟩ hc1 hc2
  by_cases hxy : x < y
  · rw [if_pos ((qlt hq1 hq).mpr hxy), if_pos hxy]
    exact ⟨rfl, hq⟩
  · rw [if_neg (fun h => hxy ((qlt hq1 hq).mp h)), if_neg hxy]
    exact ⟨rfl, hq1⟩
theorem qs_34 {p : Program} {l : Launch} {e : Env} {R : Room} {s : State} {m : MethodId} {args : Array Value} {below : List Frame} {meth : Method} {c : Code} {H : Heap} {locs : List Loc} {cells slots : Nat} {Q : State → Prop} {D : va_G} {A : Nat → Prop} {k pc b nx : Nat} {a : Int} {cl : List Nat} {L S : List qA} {σ : qM} {pc' : Nat} {L' S' : List qA} {σ' : qM} {n0 z0 : Nat} {ws : va_W} {tys : List (ClassId × FieldType)} {ls : Array Slot} {st : List Value}
    (hok : qok k pc (34, a, b, cl, nx) = true) (hs : qstep 34 a b cl nx pc L S σ = some (pc', L', S', σ')) (hr1 : σ'.1.length ≤ n0 + R.cells) (hr2 : qsz σ'.1 ≤ z0 + R.slots) (C : qCtx p s m args meth c R k) (Hp : qHp D A s ws tys σ H locs) (hL : qlr k ws L ls) (hS : qsr ws S st) (hc1 : cells + n0 = σ.1.length) (hc2 : slots + z0 = qsz σ.1) (hA : ∀ q, s.heap.size ≤ q → A q) (hNl : L.length = qNl k)
    (kk : ∀ (ws' : va_W) (tys' : List (ClassId × FieldType)) (H' : Heap) (locs' : List Loc) (ls' : Array Slot) (st' : List Value) (cells' slots' : Nat), qext ws ws' → qHp D A s ws' tys' σ' H' locs' → qlr k ws' L' ls' → qsr ws' S' st' → cells' + n0 = σ'.1.length → slots' + z0 = qsz σ'.1 → W p l e R s m args below meth c H' locs' cells' slots' Q (F0 m pc' ls' st')) :
    W p l e R s m args below meth c H locs cells slots Q (F0 m pc ls st) := by
  obtain ⟨hkN, hx, hb, hml, hown, hts, hret, hlk, hnm, hRf, hRl, hAO⟩ := C
  obtain ⟨hh, hP, hK, hD, hSS⟩ := Hp
  simp only [qstep] at hs
  split at hs <;> first | (cases hs; done) | skip
  rename_i x S1
  rw [Option.ite_none_right_eq_some] at hs
  obtain ⟨hl8, hs⟩ := hs
  simp only [Option.some.injEq, Prod.mk.injEq] at hs
  obtain ⟨rfl, rfl, rfl, rfl⟩ := hs
  simp only [qok, qdec, Bool.and_eq_true, decide_eq_true_eq] at hok
  obtain ⟨⟨h1, h2, h5, h6⟩, h3⟩ := hok
  subst h2
  obtain ⟨q, st, rfl, hq, hS⟩ := qsr_ref hS
  obtain ⟨w1, w2⟩ := qw_oin
  have hcat := qsr_cat2 hS
  have hlen := qsr_len hS
  refine W.objInit hx hb hown (hts _ (qoi_at h3)) (hts _ (qtb_at w1 rfl)) (hts _ (qtb_at w2 rfl)) rfl ((hL.1.trans hNl).trans hml.symm) rfl h1 (by omega) (by have hr := lv_room (m := m) (pc := pc) (ls := ls) (rest := .ref q :: st) (st := st) (by omega); show 2 * (F0 m pc ls (.ref q :: st)).monitorRoom + (st.map fun v => v.category).sum + 12 ≤ _; omega) ?_
  exact kk ws tys H locs ls _ cells slots qext_rf ⟨hh, hP, hK, hD, hSS⟩ hL hS hc1 hc2
theorem qs_11 {p : Program} {l : Launch} {e : Env} {R : Room} {s : State} {m : MethodId} {args : Array Value} {below : List Frame} {meth : Method} {c : Code} {H : Heap} {locs : List Loc} {cells slots : Nat} {Q : State → Prop} {D : va_G} {A : Nat → Prop} {k pc b nx : Nat} {a : Int} {cl : List Nat} {L S : List qA} {σ : qM} {pc' : Nat} {L' S' : List qA} {σ' : qM} {n0 z0 : Nat} {ws : va_W} {tys : List (ClassId × FieldType)} {ls : Array Slot} {st : List Value}
    (hok : qok k pc (11, a, b, cl, nx) = true) (hs : qstep 11 a b cl nx pc L S σ = some (pc', L', S', σ')) (hr1 : σ'.1.length ≤ n0 + R.cells) (hr2 : qsz σ'.1 ≤ z0 + R.slots) (C : qCtx p s m args meth c R k) (Hp : qHp D A s ws tys σ H locs) (hL : qlr k ws L ls) (hS : qsr ws S st) (hc1 : cells + n0 = σ.1.length) (hc2 : slots + z0 = qsz σ.1) (hA : ∀ q, s.heap.size ≤ q → A q) (hNl : L.length = qNl k)
    (kk : ∀ (ws' : va_W) (tys' : List (ClassId × FieldType)) (H' : Heap) (locs' : List Loc) (ls' : Array Slot) (st' : List Value) (cells' slots' : Nat), qext ws ws' → qHp D A s ws' tys' σ' H' locs' → qlr k ws' L' ls' → qsr ws' S' st' → cells' + n0 = σ'.1.length → slots' + z0 = qsz σ'.1 → W p l e R s m args below meth c H' locs' cells' slots' Q (F0 m pc' ls' st')) :
    W p l e R s m args below meth c H locs cells slots Q (F0 m pc ls st) := by
  obtain ⟨hkN, hx, hb, hml, hown, hts, hret, hlk, hnm, hRf, hRl, hAO⟩ := C
  obtain ⟨hh, hP, hK, hD, hSS⟩ := Hp
  simp only [qstep] at hs
  split at hs <;> first | (cases hs; done) | skip
  rename_i y x S1
  simp only [Option.some.injEq, Prod.mk.injEq] at hs
  obtain ⟨rfl, rfl, rfl, rfl⟩ := hs
  simp only [qok, qdec, Bool.and_eq_true, decide_eq_true_eq] at hok
  obtain ⟨st, rfl, hq, hS⟩ := qsr_int hS
  obtain ⟨st, rfl, hq1, hS⟩ := qsr_int hS
  obtain ⟨h1, h2⟩ := hok
  subst h2
  have hqv : ∀ w : Int32, w.toInt = qop2 a x y → qvr ws (.inl (qop2 a x y)) (.int w) := fun w hw => ⟨by rw [← hw, Int32.ofInt_toInt], by rw [← hw]; exact ⟨by have := Int32.le_toInt w; omega, by have := Int32.toInt_lt w; omega⟩⟩
  by_cases a0 : a = 0
  · rw [if_pos a0] at h1
    exact lv_iand hx hb (of_decide_eq_true h1) (kk ws tys H locs ls _ cells slots qext_rf ⟨hh, hP, hK, hD, hSS⟩ hL ⟨hqv _ (by simp [qop2, a0]), hS⟩ hc1 hc2)
  rw [if_neg a0] at h1
  by_cases a1 : a = 1
  · rw [if_pos a1] at h1
    exact lv_ior hx hb (of_decide_eq_true h1) (kk ws tys H locs ls _ cells slots qext_rf ⟨hh, hP, hK, hD, hSS⟩ hL ⟨hqv _ (by simp [qop2, a1]), hS⟩ hc1 hc2)
  rw [if_neg a1] at h1
  by_cases a2 : a = 2
  · rw [if_pos a2] at h1
    exact lv_ishl hx hb (of_decide_eq_true h1) (kk ws tys H locs ls _ cells slots qext_rf ⟨hh, hP, hK, hD, hSS⟩ hL ⟨hqv _ (by simp [qop2, a2]), hS⟩ hc1 hc2)
  rw [if_neg a2] at h1
  by_cases a3 : a = 3
  · rw [if_pos a3] at h1
    exact lv_ishr hx hb (of_decide_eq_true h1) (kk ws tys H locs ls _ cells slots qext_rf ⟨hh, hP, hK, hD, hSS⟩ hL ⟨hqv _ (by simp [qop2, a3]), hS⟩ hc1 hc2)
  rw [if_neg a3] at h1
  by_cases a4 : a = 4
  · rw [if_pos a4] at h1
    exact lv_iadd hx hb (of_decide_eq_true h1) (kk ws tys H locs ls _ cells slots qext_rf ⟨hh, hP, hK, hD, hSS⟩ hL ⟨hqv _ (by simp [qop2, a4]), hS⟩ hc1 hc2)
  rw [if_neg a4] at h1
  exact lv_imul hx hb (of_decide_eq_true h1) (kk ws tys H locs ls _ cells slots qext_rf ⟨hh, hP, hK, hD, hSS⟩ hL ⟨hqv _ (by simp [qop2, a0, a1, a2, a3, a4]), hS⟩ hc1 hc2)
theorem qs_35 {p : Program} {l : Launch} {e : Env} {R : Room} {s : State} {m : MethodId} {args : Array Value} {below : List Frame} {meth : Method} {c : Code} {H : Heap} {locs : List Loc} {cells slots : Nat} {Q : State → Prop} {D : va_G} {A : Nat → Prop} {k pc b nx : Nat} {a : Int} {cl : List Nat} {L S : List qA} {σ : qM} {pc' : Nat} {L' S' : List qA} {σ' : qM} {n0 z0 : Nat} {ws : va_W} {tys : List (ClassId × FieldType)} {ls : Array Slot} {st : List Value}
    (hok : qok k pc (35, a, b, cl, nx) = true) (hs : qstep 35 a b cl nx pc L S σ = some (pc', L', S', σ')) (hr1 : σ'.1.length ≤ n0 + R.cells) (hr2 : qsz σ'.1 ≤ z0 + R.slots) (C : qCtx p s m args meth c R k) (Hp : qHp D A s ws tys σ H locs) (hL : qlr k ws L ls) (hS : qsr ws S st) (hc1 : cells + n0 = σ.1.length) (hc2 : slots + z0 = qsz σ.1) (hA : ∀ q, s.heap.size ≤ q → A q) (hNl : L.length = qNl k)
    (kk : ∀ (ws' : va_W) (tys' : List (ClassId × FieldType)) (H' : Heap) (locs' : List Loc) (ls' : Array Slot) (st' : List Value) (cells' slots' : Nat), qext ws ws' → qHp D A s ws' tys' σ' H' locs' → qlr k ws' L' ls' → qsr ws' S' st' → cells' + n0 = σ'.1.length → slots' + z0 = qsz σ'.1 → W p l e R s m args below meth c H' locs' cells' slots' Q (F0 m pc' ls' st')) :
    W p l e R s m args below meth c H locs cells slots Q (F0 m pc ls st) := by
  obtain ⟨hkN, hx, hb, hml, hown, hts, hret, hlk, hnm, hRf, hRl, hAO⟩ := C
  obtain ⟨hh, hP, hK, hD, hSS⟩ := Hp
  simp only [qstep] at hs
  simp only [qok, qdec, Bool.and_eq_true, decide_eq_true_eq] at hok
  obtain ⟨h1, h2⟩ := hok
  subst h2
  by_cases a0 : a = 0
  · rw [if_pos a0] at h1 hs
    split at hs <;> first | (cases hs; done) | skip
    simp only [Option.some.injEq, Prod.mk.injEq] at hs
    obtain ⟨rfl, rfl, rfl, rfl⟩ := hs
    obtain ⟨st, rfl, hq, hS⟩ := qsr_int hS
    exact lv_i2l hx hb (of_decide_eq_true h1) rfl (kk ws tys H locs ls _ cells slots qext_rf ⟨hh, hP, hK, hD, hSS⟩ hL ⟨rfl, hS⟩ hc1 hc2)
  · rw [if_neg a0] at h1 hs
    split at hs <;> first | (cases hs; done) | skip
    rename_i y x S1
    rw [Option.ite_none_right_eq_some] at hs
    obtain ⟨hxy, hs⟩ := hs
    simp only [Option.some.injEq, Prod.mk.injEq] at hs
    obtain ⟨rfl, rfl, rfl, rfl⟩ := hs
    obtain ⟨st1, rfl, hS1⟩ := qsr_long hS
    obtain ⟨st2, rfl, hS2⟩ := qsr_long hS1
    subst hxy
    refine W.lcmp hx hb (of_decide_eq_true h1) (kk ws tys H locs ls _ cells slots qext_rf ⟨hh, hP, hK, hD, hSS⟩ hL ⟨⟨?_, q0in⟩, hS2⟩ hc1 hc2)
    have : lg_cmp x x = 0 := by simp [lg_cmp]
    rw [this]; rfl
theorem qs_36 {p : Program} {l : Launch} {e : Env} {R : Room} {s : State} {m : MethodId} {args : Array Value} {below : List Frame} {meth : Method} {c : Code} {H : Heap} {locs : List Loc} {cells slots : Nat} {Q : State → Prop} {D : va_G} {A : Nat → Prop} {k pc b nx : Nat} {a : Int} {cl : List Nat} {L S : List qA} {σ : qM} {pc' : Nat} {L' S' : List qA} {σ' : qM} {n0 z0 : Nat} {ws : va_W} {tys : List (ClassId × FieldType)} {ls : Array Slot} {st : List Value}
    (hok : qok k pc (36, a, b, cl, nx) = true) (hs : qstep 36 a b cl nx pc L S σ = some (pc', L', S', σ')) (hr1 : σ'.1.length ≤ n0 + R.cells) (hr2 : qsz σ'.1 ≤ z0 + R.slots) (C : qCtx p s m args meth c R k) (Hp : qHp D A s ws tys σ H locs) (hL : qlr k ws L ls) (hS : qsr ws S st) (hc1 : cells + n0 = σ.1.length) (hc2 : slots + z0 = qsz σ.1) (hA : ∀ q, s.heap.size ≤ q → A q) (hNl : L.length = qNl k)
    (kk : ∀ (ws' : va_W) (tys' : List (ClassId × FieldType)) (H' : Heap) (locs' : List Loc) (ls' : Array Slot) (st' : List Value) (cells' slots' : Nat), qext ws ws' → qHp D A s ws' tys' σ' H' locs' → qlr k ws' L' ls' → qsr ws' S' st' → cells' + n0 = σ'.1.length → slots' + z0 = qsz σ'.1 → W p l e R s m args below meth c H' locs' cells' slots' Q (F0 m pc' ls' st')) :
    W p l e R s m args below meth c H locs cells slots Q (F0 m pc ls st) := by
  obtain ⟨hkN, hx, hb, hml, hown, hts, hret, hlk, hnm, hRf, hRl, hAO⟩ := C
  obtain ⟨hh, hP, hK, hD, hSS⟩ := Hp
  simp only [qstep] at hs
  split at hs <;> first | (cases hs; done) | skip
  rename_i x hx0
  simp only [Option.some.injEq, Prod.mk.injEq] at hs
  obtain ⟨rfl, rfl, rfl, rfl⟩ := hs
  simp only [qok, qdec, Bool.and_eq_true, Bool.or_eq_true, decide_eq_true_eq] at hok
  obtain ⟨v, hv, hl⟩ := hL.2.2.1 b _ hx0
  have hv : v = _ := hv
  subst hv
  rcases hok with ⟨⟨h1, h2⟩, h3⟩ | ⟨h1, h2⟩
  · subst h2
    exact lv_lload_n hx hb h3 (qfin4 h1) hl (kk ws tys H locs ls _ cells slots qext_rf ⟨hh, hP, hK, hD, hSS⟩ hL ⟨rfl, hS⟩ hc1 hc2)
  · subst h2
    exact lv_lload hx hb h1 hl (kk ws tys H locs ls _ cells slots qext_rf ⟨hh, hP, hK, hD, hSS⟩ hL ⟨rfl, hS⟩ hc1 hc2)
theorem qs_37 {p : Program} {l : Launch} {e : Env} {R : Room} {s : State} {m : MethodId} {args : Array Value} {below : List Frame} {meth : Method} {c : Code} {H : Heap} {locs : List Loc} {cells slots : Nat} {Q : State → Prop} {D : va_G} {A : Nat → Prop} {k pc b nx : Nat} {a : Int} {cl : List Nat} {L S : List qA} {σ : qM} {pc' : Nat} {L' S' : List qA} {σ' : qM} {n0 z0 : Nat} {ws : va_W} {tys : List (ClassId × FieldType)} {ls : Array Slot} {st : List Value}
    (hok : qok k pc (37, a, b, cl, nx) = true) (hs : qstep 37 a b cl nx pc L S σ = some (pc', L', S', σ')) (hr1 : σ'.1.length ≤ n0 + R.cells) (hr2 : qsz σ'.1 ≤ z0 + R.slots) (C : qCtx p s m args meth c R k) (Hp : qHp D A s ws tys σ H locs) (hL : qlr k ws L ls) (hS : qsr ws S st) (hc1 : cells + n0 = σ.1.length) (hc2 : slots + z0 = qsz σ.1) (hA : ∀ q, s.heap.size ≤ q → A q) (hNl : L.length = qNl k)
    (kk : ∀ (ws' : va_W) (tys' : List (ClassId × FieldType)) (H' : Heap) (locs' : List Loc) (ls' : Array Slot) (st' : List Value) (cells' slots' : Nat), qext ws ws' → qHp D A s ws' tys' σ' H' locs' → qlr k ws' L' ls' → qsr ws' S' st' → cells' + n0 = σ'.1.length → slots' + z0 = qsz σ'.1 → W p l e R s m args below meth c H' locs' cells' slots' Q (F0 m pc' ls' st')) :
    W p l e R s m args below meth c H locs cells slots Q (F0 m pc ls st) := by
  obtain ⟨hkN, hx, hb, hml, hown, hts, hret, hlk, hnm, hRf, hRl, hAO⟩ := C
  obtain ⟨hh, hP, hK, hD, hSS⟩ := Hp
  simp only [qstep] at hs
  split at hs <;> first | (cases hs; done) | skip
  rename_i x S1
  rw [Option.ite_none_right_eq_some] at hs
  obtain ⟨hbl, hs⟩ := hs
  simp only [Option.some.injEq, Prod.mk.injEq] at hs
  obtain ⟨rfl, rfl, rfl, rfl⟩ := hs
  simp only [qok, qdec, Bool.and_eq_true, Bool.or_eq_true, decide_eq_true_eq] at hok
  obtain ⟨st1, rfl, hS1⟩ := qsr_long hS
  have hbl : b + 1 < ls.size := by rw [hL.1]; exact hbl
  obtain ⟨hok, hnb, hcn⟩ := hok
  have hcn : b ∈ qlj k := by simpa using hcn
  rcases hok with ⟨⟨h1, h2⟩, h3⟩ | ⟨h1, h2⟩
  · subst h2
    exact lv_lstore_n hx hb h3 (qfin4 h1) (qlv_has hL.2.1) hbl rfl (fun ls' hl' => kk ws tys H locs ls' _ cells slots qext_rf ⟨hh, hP, hK, hD, hSS⟩ (qlr_setL hL hnb hcn hl') hS1 hc1 hc2)
  · subst h2
    exact lv_lstore hx hb h1 (qlv_has hL.2.1) hbl rfl (fun ls' hl' => kk ws tys H locs ls' _ cells slots qext_rf ⟨hh, hP, hK, hD, hSS⟩ (qlr_setL hL hnb hcn hl') hS1 hc1 hc2)
theorem qs_38 {p : Program} {l : Launch} {e : Env} {R : Room} {s : State} {m : MethodId} {args : Array Value} {below : List Frame} {meth : Method} {c : Code} {H : Heap} {locs : List Loc} {cells slots : Nat} {Q : State → Prop} {D : va_G} {A : Nat → Prop} {k pc b nx : Nat} {a : Int} {cl : List Nat} {L S : List qA} {σ : qM} {pc' : Nat} {L' S' : List qA} {σ' : qM} {n0 z0 : Nat} {ws : va_W} {tys : List (ClassId × FieldType)} {ls : Array Slot} {st : List Value}
    (hok : qok k pc (38, a, b, cl, nx) = true) (hs : qstep 38 a b cl nx pc L S σ = some (pc', L', S', σ')) (hr1 : σ'.1.length ≤ n0 + R.cells) (hr2 : qsz σ'.1 ≤ z0 + R.slots) (C : qCtx p s m args meth c R k) (Hp : qHp D A s ws tys σ H locs) (hL : qlr k ws L ls) (hS : qsr ws S st) (hc1 : cells + n0 = σ.1.length) (hc2 : slots + z0 = qsz σ.1) (hA : ∀ q, s.heap.size ≤ q → A q) (hNl : L.length = qNl k)
    (kk : ∀ (ws' : va_W) (tys' : List (ClassId × FieldType)) (H' : Heap) (locs' : List Loc) (ls' : Array Slot) (st' : List Value) (cells' slots' : Nat), qext ws ws' → qHp D A s ws' tys' σ' H' locs' → qlr k ws' L' ls' → qsr ws' S' st' → cells' + n0 = σ'.1.length → slots' + z0 = qsz σ'.1 → W p l e R s m args below meth c H' locs' cells' slots' Q (F0 m pc' ls' st')) :
    W p l e R s m args below meth c H locs cells slots Q (F0 m pc ls st) := by
  obtain ⟨hkN, hx, hb, hml, hown, hts, hret, hlk, hnm, hRf, hRl, hAO⟩ := C
  obtain ⟨hh, hP, hK, hD, hSS⟩ := Hp
  simp only [qstep] at hs
  split at hs <;> first | (cases hs; done) | skip
  rename_i y x S1
  simp only [Option.some.injEq, Prod.mk.injEq] at hs
  obtain ⟨rfl, rfl, rfl, rfl⟩ := hs
  simp only [qok, qdec, Bool.and_eq_true, decide_eq_true_eq] at hok
  obtain ⟨st1, rfl, hS1⟩ := qsr_long hS
  obtain ⟨st2, rfl, hS2⟩ := qsr_long hS1
  obtain ⟨h1, h2⟩ := hok
  subst h2
  by_cases a0 : a = 0
  · rw [if_pos a0] at h1
    exact lv_ladd hx hb (of_decide_eq_true h1) (kk ws tys H locs ls _ cells slots qext_rf ⟨hh, hP, hK, hD, hSS⟩ hL ⟨by simp [qvr, a0], hS2⟩ hc1 hc2)
  · rw [if_neg a0] at h1
    exact lv_lmul hx hb (of_decide_eq_true h1) (kk ws tys H locs ls _ cells slots qext_rf ⟨hh, hP, hK, hD, hSS⟩ hL ⟨by simp [qvr, a0], hS2⟩ hc1 hc2)
theorem qs_39 {p : Program} {l : Launch} {e : Env} {R : Room} {s : State} {m : MethodId} {args : Array Value} {below : List Frame} {meth : Method} {c : Code} {H : Heap} {locs : List Loc} {cells slots : Nat} {Q : State → Prop} {D : va_G} {A : Nat → Prop} {k pc b nx : Nat} {a : Int} {cl : List Nat} {L S : List qA} {σ : qM} {pc' : Nat} {L' S' : List qA} {σ' : qM} {n0 z0 : Nat} {ws : va_W} {tys : List (ClassId × FieldType)} {ls : Array Slot} {st : List Value}
    (hok : qok k pc (39, a, b, cl, nx) = true) (hs : qstep 39 a b cl nx pc L S σ = some (pc', L', S', σ')) (hr1 : σ'.1.length ≤ n0 + R.cells) (hr2 : qsz σ'.1 ≤ z0 + R.slots) (C : qCtx p s m args meth c R k) (Hp : qHp D A s ws tys σ H locs) (hL : qlr k ws L ls) (hS : qsr ws S st) (hc1 : cells + n0 = σ.1.length) (hc2 : slots + z0 = qsz σ.1) (hA : ∀ q, s.heap.size ≤ q → A q) (hNl : L.length = qNl k)
    (kk : ∀ (ws' : va_W) (tys' : List (ClassId × FieldType)) (H' : Heap) (locs' : List Loc) (ls' : Array Slot) (st' : List Value) (cells' slots' : Nat), qext ws ws' → qHp D A s ws' tys' σ' H' locs' → qlr k ws' L' ls' → qsr ws' S' st' → cells' + n0 = σ'.1.length → slots' + z0 = qsz σ'.1 → W p l e R s m args below meth c H' locs' cells' slots' Q (F0 m pc' ls' st')) :
    W p l e R s m args below meth c H locs cells slots Q (F0 m pc ls st) := by
  obtain ⟨hkN, hx, hb, hml, hown, hts, hret, hlk, hnm, hRf, hRl, hAO⟩ := C
  obtain ⟨hh, hP, hK, hD, hSS⟩ := Hp
  simp only [qstep] at hs
  simp only [Option.some.injEq, Prod.mk.injEq] at hs
  obtain ⟨rfl, rfl, rfl, rfl⟩ := hs
  simp only [qok, qdec, Bool.and_eq_true, decide_eq_true_eq] at hok
  obtain ⟨⟨h1, h2, h3⟩, h4⟩ := hok
  subst h2
  rw [h3] at hown
  exact lv_ldc2 hx hb hown (hts _ (qll_at h4)) h1 (kk ws tys H locs ls _ cells slots qext_rf ⟨hh, hP, hK, hD, hSS⟩ hL ⟨rfl, hS⟩ hc1 hc2)
