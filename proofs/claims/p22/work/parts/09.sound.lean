/-! What the abstract machine does, the machine does -/
theorem qstep_pre {op : Nat} {a : Int} {b : Nat} {c : List Nat} {nx pc : Nat} {L S : List qA} {σ : qM} {pc' : Nat} {L' S' : List qA} {σ' : qM} (h : qstep op a b c nx pc L S σ = some (pc', L', S', σ')) : (∃ X, σ'.1 = σ.1 ++ X) ∧ L'.length = L.length := by
  unfold qstep at h
  repeat' split at h
  all_goals first
    | (cases h; done)
    | (simp only [Option.some.injEq, Prod.mk.injEq] at h
       obtain ⟨-, rfl, -, rfl⟩ := h
       exact ⟨⟨[], (List.append_nil _).symm⟩, by simp⟩)
    | (simp only [Option.some.injEq, Prod.mk.injEq] at h
       obtain ⟨-, rfl, -, rfl⟩ := h
       exact ⟨⟨_, rfl⟩, by simp⟩)
theorem qev_pre : ∀ (n k pc : Nat) (L S : List qA) (σ : qM) (r : qA) (σ' : qM), qev n k pc L S σ = some (r, σ') → ∃ X, σ'.1 = σ.1 ++ X := by
  intro n
  induction n with
  | zero => intro k pc L S σ r σ' h; exact absurd h (by simp [qev])
  | succ n ih =>
    intro k pc L S σ r σ' h
    change qbody (qev n) k pc L S σ = _ at h
    unfold qbody at h
    split at h
    · exact absurd h (by simp)
    · rename_i op a b c nx hc
      split at h
      · split at h
        · rename_i pc' L' S' σ1 hs
          obtain ⟨⟨X, hX⟩, -⟩ := qstep_pre hs
          obtain ⟨Y, hY⟩ := ih _ _ _ _ _ _ _ h
          exact ⟨X ++ Y, by rw [hY, hX, List.append_assoc]⟩
        · exact absurd h (by simp)
      · split at h
        · split at h
          · split at h
            · rename_i r1 σ1 hs
              obtain ⟨X, hX⟩ := ih _ _ _ _ _ _ _ hs
              obtain ⟨Y, hY⟩ := ih _ _ _ _ _ _ _ h
              exact ⟨X ++ Y, by rw [hY, hX, List.append_assoc]⟩
            · exact absurd h (by simp)
          · exact absurd h (by simp)
        · repeat' split at h
          all_goals first
            | (cases h; done)
            | (simp only [Option.some.injEq, Prod.mk.injEq] at h
               obtain ⟨-, rfl⟩ := h
               exact ⟨[], by simp⟩)
theorem qev_ret : ∀ (n k pc : Nat) (L S : List qA) (σ : qM) (r : qA) (σ' : qM), k < qN → qev n k pc L S σ = some (r, σ') → (qRt k = 0 → r = none) ∧ (qRt k ≠ 0 → ∃ x, r = some x) := by
  intro n
  induction n with
  | zero => intro k pc L S σ r σ' _ h; exact absurd h (by simp [qev])
  | succ n ih =>
    intro k pc L S σ r σ' hk h
    change qbody (qev n) k pc L S σ = _ at h
    unfold qbody at h
    split at h
    · exact absurd h (by simp)
    · rename_i op a b c nx hc
      have hok := qk_all k hk pc _ hc
      split at h
      · split at h
        · exact ih _ _ _ _ _ _ _ hk h
        · exact absurd h (by simp)
      · split at h
        · split at h
          · split at h
            · exact ih _ _ _ _ _ _ _ hk h
            · exact absurd h (by simp)
          · exact absurd h (by simp)
        · split at h
          · rename_i ho
            subst ho
            simp only [qok, Bool.and_eq_true, decide_eq_true_eq] at hok
            split at h
            · simp only [Option.some.injEq, Prod.mk.injEq] at h
              exact ⟨fun h0 => by omega, fun _ => ⟨_, h.1.symm⟩⟩
            · exact absurd h (by simp)
          · split at h
            · rename_i ho
              subst ho
              simp only [qok, Bool.and_eq_true, decide_eq_true_eq] at hok
              split at h
              · split at h
                · simp only [Option.some.injEq, Prod.mk.injEq] at h
                  exact ⟨fun h0 => by omega, fun _ => ⟨_, h.1.symm⟩⟩
                · exact absurd h (by simp)
              · exact absurd h (by simp)
            · split at h
              · rename_i ho
                subst ho
                simp only [qok, Bool.and_eq_true, decide_eq_true_eq] at hok
                split at h
                · simp only [Option.some.injEq, Prod.mk.injEq] at h
                  exact ⟨fun h0 => by omega, fun _ => ⟨_, h.1.symm⟩⟩
                · exact absurd h (by simp)
              · split at h
                · rename_i ho
                  subst ho
                  simp only [qok, Bool.and_eq_true, decide_eq_true_eq] at hok
                  split at h
                  · simp only [Option.some.injEq, Prod.mk.injEq] at h
                    exact ⟨fun _ => h.1.symm, fun h0 => absurd hok.2 h0⟩
                  · exact absurd h (by simp)
                · split at h
                  · rename_i ho
                    subst ho
                    simp only [qok, Bool.and_eq_true, decide_eq_true_eq] at hok
                    split at h
                    · simp only [Option.some.injEq, Prod.mk.injEq] at h
                      exact ⟨fun h0 => by omega, fun _ => ⟨_, h.1.symm⟩⟩
                    · exact absurd h (by simp)
                  · exact absurd h (by simp)
def qrr (ws : va_W) : qA → Option Value → Prop
  | none, v => v = none
  | some x, v => ∃ w, qvr ws x w ∧ v = some w
/-- a method's end: the answer, the memory, what isn't the method's stays -/
def qQ (D : va_G) (A : Nat → Prop) (ws0 : va_W) (r : qA) (σ' : qM) : Array Value → State → Outcome → State → Prop := fun _ st oc t =>
  (∃ (v : Option Value) (ws' : va_W) (tys' : List (ClassId × FieldType)), oc = .returned v ∧ qrr ws' r v ∧ qext ws0 ws' ∧ qhr ws' tys' σ' ∧ va_P D vwCl ws' t.heap ∧ va_K D vwCl tys' t ∧ va_D A ws') ∧ va_F A st t
theorem qgo {p : Program} {l : Launch} {e : Env} {R : Room} {s : State} {m : MethodId} {args : Array Value} {below : List Frame} {meth : Method} {c : Code} {H : Heap} {locs : List Loc} {cells slots mc ms : Nat} {Q : State → Prop} {pc : Nat} {ls : Array Slot} {st0 rest : List Value} {Qa : State → Outcome → State → Prop} {free : Addr → Prop}
    (hr : va_Run p l e R s m args below meth c H locs cells slots mc ms (F0 m pc ls st0) rest Qa free)
    (kk : ∀ (v : Option Value) (st₀ t : State) (L : List Loc), st₀.heap = H → (∀ q ∈ L, free q.base) → s.vm.Alike t.vm → Qa st₀ (.returned v) t → W p l e R s m args below meth c t.heap (locs ++ L) (cells + mc) (slots + ms) Q (F0 m (pc + 3) ls (v.toList ++ rest))) : W p l e R s m args below meth c H locs cells slots Q (F0 m pc ls st0) := by
  intro T hT X
  obtain ⟨v, st₀, t, T', L, h0, X', hL, e1, e2, hq, st⟩ := hr T hT X
  obtain ⟨t2, a1, b1⟩ := kk v st₀ t L h0 hL (by rw [← e2]; exact X'.warmed.alike) hq T' e1 X'
  exact ⟨t2, st t2 a1, b1⟩
def qSound (n : Nat) : Prop := ∀ (k pc : Nat) (L S : List qA) (σ : qM) (r : qA) (σ' : qM), qev n k pc L S σ = some (r, σ') →
  ∀ {p : Program} {l : Launch} {e : Env} {R : Room} {s : State} {m : MethodId} {args : Array Value} {below : List Frame} {meth : Method} {c : Code} {H : Heap} {locs : List Loc} {cells slots : Nat} {D : va_G} {A : Nat → Prop} {n0 z0 : Nat} {ws0 ws : va_W} {tys : List (ClassId × FieldType)} {ls : Array Slot} {st : List Value},
    qCtx p s m args meth c R k → qHp D A s ws tys σ H locs → qlr k ws L ls → qsr ws S st → L.length = qNl k → (∀ q, s.heap.size ≤ q → A q) → qext ws0 ws → cells + n0 = σ.1.length → slots + z0 = qsz σ.1 → σ'.1.length ≤ n0 + R.cells → qsz σ'.1 ≤ z0 + R.slots →
    W p l e R s m args below meth c H locs cells slots (MQ below (qQ D A ws0 r σ') args s (σ'.1.length - n0) (qsz σ'.1 - z0) A) (F0 m pc ls st)
def qrm (b : Nat) (σ σ' : qM) : Room := { frames := (qfr b).1, cells := σ'.1.length - σ.1.length, slots := qsz σ'.1 - qsz σ.1, locals := (qfr b).2 }
def qPc (D : va_G) (ws : va_W) (tys : List (ClassId × FieldType)) (sz : Nat) (avs : List Value) : Array Value → State → Prop := va_Pc avs (fun U => U.heap.size = sz ∧ va_P D vwCl ws U.heap ∧ va_K D vwCl tys U ∧ va_D (fun _ => True) ws ∧ qAO U)
def qws (b : Nat) : List Cond := Cond.code (qy b) (qb b) (qNl b) (qret b) :: qtb
theorem qm3 {b : Nat} (hb : b < qN) : (qy b).cls = qR (qCl b) ∧ qCl b < 9 ∧ (qKi b = 0 ∨ qCl b < 8) ∧ plainName (qy b).cls = true ∧ (qy b).cls ≠ "java/lang/invoke/MethodHandle" ∧ (qy b).cls ≠ "java/lang/invoke/VarHandle" ∧ qrt_ok b = true := of_decide_eq_true (List.all_eq_true.mp qmp_ok3 b (List.mem_range.mpr hb))
theorem qcode_in {b : Nat} (hb : b < qN) : Cond.code (qy b) (qb b) (qNl b) (qret b) ∈ qtb := qtb_in (qcw_all b hb) rfl
theorem qws_good {b : Nat} (hb : b < qN) : GoodIn qtb (qws b) := by
  intro w hw
  rcases List.mem_cons.mp hw with rfl | hw
  · exact ⟨qcode_in hb, qtb_good (qcode_in hb)⟩
  · exact ⟨hw, qtb_good hw⟩
theorem qrt1 {b : Nat} (hb : b < qN) (h : qRt b = 1) : qret b = some .int := by
  have h1 := (qm3 hb).2.2.2.2.2.2
  unfold qrt_ok at h1
  rw [h] at h1
  split at h1 <;> simp_all
theorem qrt2 {b : Nat} (hb : b < qN) (h : qRt b = 2) : qret b = some .boolean := by
  have h1 := (qm3 hb).2.2.2.2.2.2
  unfold qrt_ok at h1
  rw [h] at h1
  split at h1 <;> simp_all
theorem qrt3 {b : Nat} (hb : b < qN) (h : qRt b = 3) : ∃ n, qret b = some (.object n) := by
  have h1 := (qm3 hb).2.2.2.2.2.2
  unfold qrt_ok at h1
  rw [h] at h1
  split at h1 <;> simp_all
theorem qrt4 {b : Nat} (hb : b < qN) (h : qRt b = 4) : qret b = some .long := by
  have h1 := (qm3 hb).2.2.2.2.2.2
  unfold qrt_ok at h1
  rw [h] at h1
  split at h1 <;> simp_all
theorem qrt0 {b : Nat} (hb : b < qN) (h : qRt b = 0) : qret b = none := by
  have h1 := (qm3 hb).2.2.2.2.2.2
  unfold qrt_ok at h1
  rw [h] at h1
  split at h1 <;> simp_all
theorem qlr_entry {k : Nat} {ws : va_W} {as : List qA} {avs : List Value} {n : Nat} (h : qsr ws as avs) (hn : qnol as = true) : qlr k ws (as ++ List.replicate (n - as.length) none) ((avs.map Slot.val ++ List.replicate (n - avs.length) Slot.unset).toArray) := by
  have hl := qsr_len h
  have hc := qsr_cat h hn
  refine ⟨by simp [hl], ⟨fun i v hi h2 => ?_, fun i hi => ?_⟩, fun i x hi => ?_, fun i x hi => Or.inl ?_⟩
  · have h1 := List.mem_of_getElem? (l := avs.map Slot.val ++ List.replicate (n - avs.length) Slot.unset) (by simpa using hi)
    rcases List.mem_append.mp h1 with h1 | h1
    · obtain ⟨w, hw, e⟩ := List.mem_map.mp h1
      cases e
      have := hc _ hw
      omega
    · have := (List.mem_replicate.mp h1).2
      cases this
  · have h1 := List.mem_of_getElem? (l := avs.map Slot.val ++ List.replicate (n - avs.length) Slot.unset) (by simpa using hi)
    rcases List.mem_append.mp h1 with h1 | h1
    · obtain ⟨w, hw, e⟩ := List.mem_map.mp h1
      cases e
    · have := (List.mem_replicate.mp h1).2
      cases this
  · by_cases hil : i < as.length
    · rw [List.getElem?_append_left hil] at hi
      have key : ∀ (S : List qA) (st : List Value), qsr ws S st → ∀ i : Nat, S[i]? = some (some x) → ∃ v, qvr ws x v ∧ st[i]? = some v := by
        intro S
        induction S with
        | nil => intro st _ i hi; simp at hi
        | cons a S ih =>
          intro st hs i hi
          cases st with
          | nil => cases a <;> cases hs
          | cons v st =>
            cases a with
            | none => cases hs
            | some y =>
              cases i with
              | zero => simp at hi; subst hi; exact ⟨v, hs.1, rfl⟩
              | succ i => simp at hi; obtain ⟨w, h1, h2⟩ := ih st hs.2 i hi; exact ⟨w, h1, by simpa using h2⟩
      obtain ⟨v, h1, h2⟩ := key as avs h i hi
      refine ⟨v, h1, ?_⟩
      rw [List.getElem?_toArray, List.getElem?_append_left (by simp; omega), List.getElem?_map, h2]
      rfl
    · rw [List.getElem?_append_right (by omega)] at hi
      have := (List.mem_replicate.mp (List.mem_of_getElem? hi)).2
      cases this
  · have h1 := List.mem_of_getElem? hi
    rcases List.mem_append.mp h1 with h1 | h1
    · exact List.all_eq_true.mp hn _ h1
    · have := (List.mem_replicate.mp h1).2
      cases this
theorem qMet {n : Nat} (ih : qSound n) (l : Launch) {D : va_G} {ws : va_W} {tys : List (ClassId × FieldType)} {b sz : Nat} {as : List qA} {avs : List Value} {σ σ' : qM} {r : qA} (hev : qev n b 0 (qent b as) [] σ = some (r, σ')) (hb : b < qN) (hal : as.length ≤ qNl b) (hnl : qnol as = true) (hs : qsr ws as avs) (hh : qhr ws tys σ) :
    Met l (qy b) (qws b) (qrm b σ σ') (qPc D ws tys sz avs) (qQ D (va_A ws sz) ws r σ') (σ'.1.length - σ.1.length) (qsz σ'.1 - qsz σ.1) (va_A ws sz) := by
  refine Met.ofW (cc := qb b) (maxL := qNl b) (ret := qret b) (qm3 hb).2.2.2.1 rfl ?_
  intro p e s m args below meth c s₁ B hml hv
  obtain ⟨rfl, hsz, hP, hK, hD0, hAO⟩ := hv
  have hts := atoms_spec (ws := qws b) B.pre
  have hown : s.vm.findClass (qR (qCl b)) = some m.cls := by rw [← (qm3 hb).1]; exact findClass_of_methodNamed B.named
  subst hsz
  rw [entry_eq m avs (qsr_cat hs hnl) (qNl b)]
  have hX := qev_pre _ _ _ _ _ _ _ _ hev
  obtain ⟨X, hX⟩ := hX
  have hz := qsz_app σ.1 X
  refine ih b 0 (qent b as) [] σ r σ' hev ⟨hb, B.exec, B.bytes, hml, hown, fun w hw => hts w (List.mem_cons_of_mem _ hw), B.returns, B.notSynchronized, (name_of_methodNamed B.named B.method).1, Nat.le_refl _, Nat.le_refl _, hAO⟩ ⟨hh, hP, hK, hD0.self, va_S.rf⟩ (qlr_entry hs hnl) trivial ?_ (fun q h => Or.inr h) qext_rf (by omega) (by omega) ?_ ?_
  · unfold qent
    rw [List.length_append, List.length_replicate]
    omega
  · show σ'.1.length ≤ σ.1.length + (σ'.1.length - σ.1.length)
    omega
  · show qsz σ'.1 ≤ qsz σ.1 + (qsz σ'.1 - qsz σ.1)
    omega
theorem qsound_step {n : Nat} (ih : qSound n) {k pc : Nat} {L S : List qA} {σ : qM} {r : qA} {σ' : qM} {op : Nat} {a : Int} {b : Nat} {cl : List Nat} {nx : Nat} {pc' : Nat} {L' S' : List qA} {σ1 : qM} (hcd : qcd k pc = some (op, a, b, cl, nx)) (hs : qstep op a b cl nx pc L S σ = some (pc', L', S', σ1)) (hev : qev n k pc' L' S' σ1 = some (r, σ'))
    {p : Program} {l : Launch} {e : Env} {R : Room} {s : State} {m : MethodId} {args : Array Value} {below : List Frame} {meth : Method} {c : Code} {H : Heap} {locs : List Loc} {cells slots : Nat} {D : va_G} {A : Nat → Prop} {n0 z0 : Nat} {ws0 ws : va_W} {tys : List (ClassId × FieldType)} {ls : Array Slot} {st : List Value}
    (C : qCtx p s m args meth c R k) (Hp : qHp D A s ws tys σ H locs) (hL : qlr k ws L ls) (hS : qsr ws S st) (hNl : L.length = qNl k) (hA : ∀ q, s.heap.size ≤ q → A q) (hx0 : qext ws0 ws) (hc1 : cells + n0 = σ.1.length) (hc2 : slots + z0 = qsz σ.1) (hr1 : σ'.1.length ≤ n0 + R.cells) (hr2 : qsz σ'.1 ≤ z0 + R.slots) :
    W p l e R s m args below meth c H locs cells slots (MQ below (qQ D A ws0 r σ') args s (σ'.1.length - n0) (qsz σ'.1 - z0) A) (F0 m pc ls st) := by
  have hok := qk_all k C.1 pc _ hcd
  obtain ⟨X, hX⟩ := qev_pre _ _ _ _ _ _ _ _ hev
  have hzX := qsz_app σ1.1 X
  have hlX : σ'.1.length = σ1.1.length + X.length := by rw [hX, List.length_append]
  rw [← hX] at hzX
  have hl1 : σ1.1.length ≤ n0 + R.cells := by omega
  have hz1 : qsz σ1.1 ≤ z0 + R.slots := by omega
  have hNl' := (qstep_pre hs).2
  have KK : ∀ (ws' : va_W) (tys' : List (ClassId × FieldType)) (H' : Heap) (locs' : List Loc) (ls' : Array Slot) (st' : List Value) (cells' slots' : Nat), qext ws ws' → qHp D A s ws' tys' σ1 H' locs' → qlr k ws' L' ls' → qsr ws' S' st' → cells' + n0 = σ1.1.length → slots' + z0 = qsz σ1.1 → W p l e R s m args below meth c H' locs' cells' slots' (MQ below (qQ D A ws0 r σ') args s (σ'.1.length - n0) (qsz σ'.1 - z0) A) (F0 m pc' ls' st') :=
    fun ws' tys' H' locs' ls' st' cells' slots' g1 g2 g3 g4 g5 g6 => ih k pc' L' S' σ1 r σ' hev C g2 g3 g4 (hNl'.trans hNl) hA (qext_tr hx0 g1) g5 g6 hr1 hr2
  match op, hok, hs with
  | 0, hok, hs => exact qs_0 hok hs hl1 hz1 C Hp hL hS hc1 hc2 hA hNl KK
  | 1, hok, hs => exact qs_1 hok hs hl1 hz1 C Hp hL hS hc1 hc2 hA hNl KK
  | 2, hok, hs => exact qs_2 hok hs hl1 hz1 C Hp hL hS hc1 hc2 hA hNl KK
  | 3, hok, hs => exact qs_3 hok hs hl1 hz1 C Hp hL hS hc1 hc2 hA hNl KK
  | 4, hok, hs => exact qs_4 hok hs hl1 hz1 C Hp hL hS hc1 hc2 hA hNl KK
  | 5, hok, hs => exact qs_5 hok hs hl1 hz1 C Hp hL hS hc1 hc2 hA hNl KK
  | 6, hok, hs => exact qs_6 hok hs hl1 hz1 C Hp hL hS hc1 hc2 hA hNl KK
  | 7, hok, hs => exact qs_7 hok hs hl1 hz1 C Hp hL hS hc1 hc2 hA hNl KK
  | 8, hok, hs => exact qs_8 hok hs hl1 hz1 C Hp hL hS hc1 hc2 hA hNl KK
  | 9, hok, hs => exact qs_9 hok hs hl1 hz1 C Hp hL hS hc1 hc2 hA hNl KK
  | 10, hok, hs => exact qs_10 hok hs hl1 hz1 C Hp hL hS hc1 hc2 hA hNl KK
  | 12, hok, hs => exact qs_12 hok hs hl1 hz1 C Hp hL hS hc1 hc2 hA hNl KK
  | 13, hok, hs => exact qs_13 hok hs hl1 hz1 C Hp hL hS hc1 hc2 hA hNl KK
  | 14, hok, hs => exact qs_14 hok hs hl1 hz1 C Hp hL hS hc1 hc2 hA hNl KK
  | 15, hok, hs => exact qs_15 hok hs hl1 hz1 C Hp hL hS hc1 hc2 hA hNl KK
  | 16, hok, hs => exact qs_16 hok hs hl1 hz1 C Hp hL hS hc1 hc2 hA hNl KK
  | 17, hok, hs => exact qs_17 hok hs hl1 hz1 C Hp hL hS hc1 hc2 hA hNl KK
  | 18, hok, hs => exact qs_18 hok hs hl1 hz1 C Hp hL hS hc1 hc2 hA hNl KK
  | 19, hok, hs => exact qs_19 hok hs hl1 hz1 C Hp hL hS hc1 hc2 hA hNl KK
  | 20, hok, hs => exact qs_20 hok hs hl1 hz1 C Hp hL hS hc1 hc2 hA hNl KK
  | 21, hok, hs => exact qs_21 hok hs hl1 hz1 C Hp hL hS hc1 hc2 hA hNl KK
  | 22, hok, hs => exact qs_22 hok hs hl1 hz1 C Hp hL hS hc1 hc2 hA hNl KK
  | 23, hok, hs => exact qs_23 hok hs hl1 hz1 C Hp hL hS hc1 hc2 hA hNl KK
  | 24, hok, hs => exact qs_24 hok hs hl1 hz1 C Hp hL hS hc1 hc2 hA hNl KK
  | 25, hok, hs => exact qs_25 hok hs hl1 hz1 C Hp hL hS hc1 hc2 hA hNl KK
  | 26, hok, hs => exact qs_26 hok hs hl1 hz1 C Hp hL hS hc1 hc2 hA hNl KK
  | 27, hok, hs => exact qs_27 hok hs hl1 hz1 C Hp hL hS hc1 hc2 hA hNl KK
  | 28, hok, hs => exact qs_28 hok hs hl1 hz1 C Hp hL hS hc1 hc2 hA hNl KK
  | 29, hok, hs => exact qs_29 hok hs hl1 hz1 C Hp hL hS hc1 hc2 hA hNl KK
  | 30, hok, hs => exact qs_30 hok hs hl1 hz1 C Hp hL hS hc1 hc2 hA hNl KK
  | 31, hok, hs => exact qs_31 hok hs hl1 hz1 C Hp hL hS hc1 hc2 hA hNl KK
  | 32, hok, hs => exact qs_32 hok hs hl1 hz1 C Hp hL hS hc1 hc2 hA hNl KK
  | 33, hok, hs => exact qs_33 hok hs hl1 hz1 C Hp hL hS hc1 hc2 hA hNl KK
  | 34, hok, hs => exact qs_34 hok hs hl1 hz1 C Hp hL hS hc1 hc2 hA hNl KK
  | 11, hok, hs => exact qs_11 hok hs hl1 hz1 C Hp hL hS hc1 hc2 hA hNl KK
  | 35, hok, hs => exact qs_35 hok hs hl1 hz1 C Hp hL hS hc1 hc2 hA hNl KK
  | 36, hok, hs => exact qs_36 hok hs hl1 hz1 C Hp hL hS hc1 hc2 hA hNl KK
  | 37, hok, hs => exact qs_37 hok hs hl1 hz1 C Hp hL hS hc1 hc2 hA hNl KK
  | 38, hok, hs => exact qs_38 hok hs hl1 hz1 C Hp hL hS hc1 hc2 hA hNl KK
  | 39, hok, hs => exact qs_39 hok hs hl1 hz1 C Hp hL hS hc1 hc2 hA hNl KK
  | _ + 40, _, hs => exact absurd hs (by simp [qstep])
theorem qsound_call {n : Nat} (ih : qSound n) {k pc : Nat} {L S : List qA} {σ : qM} {r : qA} {σ' : qM} {a : Int} {b : Nat} {cl : List Nat} {nx : Nat} {r1 : qA} {σ1 : qM} (hcd : qcd k pc = some (40, a, b, cl, nx)) (hg : qNa b ≤ S.length ∧ S.length ≤ qNa b + 4 ∧ qrcv b (S.take (qNa b)).reverse σ = true ∧ qNa b ≤ qNl b) (he1 : qev n b 0 (qent b (S.take (qNa b)).reverse) [] σ = some (r1, σ1)) (hev : qev n k nx L (if qRt b = 0 then S.drop (qNa b) else r1 :: S.drop (qNa b)) σ1 = some (r, σ'))
    {p : Program} {l : Launch} {e : Env} {R : Room} {s : State} {m : MethodId} {args : Array Value} {below : List Frame} {meth : Method} {c : Code} {H : Heap} {locs : List Loc} {cells slots : Nat} {D : va_G} {A : Nat → Prop} {n0 z0 : Nat} {ws0 ws : va_W} {tys : List (ClassId × FieldType)} {ls : Array Slot} {st : List Value}
    (C : qCtx p s m args meth c R k) (Hp : qHp D A s ws tys σ H locs) (hL : qlr k ws L ls) (hS : qsr ws S st) (hNl : L.length = qNl k) (hA : ∀ q, s.heap.size ≤ q → A q) (hx0 : qext ws0 ws) (hc1 : cells + n0 = σ.1.length) (hc2 : slots + z0 = qsz σ.1) (hr1 : σ'.1.length ≤ n0 + R.cells) (hr2 : qsz σ'.1 ≤ z0 + R.slots) :
    W p l e R s m args below meth c H locs cells slots (MQ below (qQ D A ws0 r σ') args s (σ'.1.length - n0) (qsz σ'.1 - z0) A) (F0 m pc ls st) := by
  have hok := qk_all k C.1 pc _ hcd
  obtain ⟨X, hX⟩ := qev_pre _ _ _ _ _ _ _ _ hev
  have hzX := qsz_app σ1.1 X
  have hlX : σ'.1.length = σ1.1.length + X.length := by rw [hX, List.length_append]
  rw [← hX] at hzX
  obtain ⟨Y, hY⟩ := qev_pre _ _ _ _ _ _ _ _ he1
  have hzY := qsz_app σ.1 Y
  have hlY : σ1.1.length = σ.1.length + Y.length := by rw [hY, List.length_append]
  rw [← hY] at hzY
  have C0 := C
  obtain ⟨hkN, hx, hb, hml, hown, hts, hret, hlk, hnm, hRf, hRl, hAO⟩ := C
  obtain ⟨hh, hP, hK, hD, hSS⟩ := Hp
  obtain ⟨hn1, hn2, hrc, hn3⟩ := hg
  have hnl : qnol (S.take (qNa b)).reverse = true := by
    unfold qrcv at hrc
    rw [Bool.and_eq_true] at hrc
    exact hrc.1
  simp only [qok, Bool.and_eq_true, decide_eq_true_eq] at hok
  obtain ⟨⟨⟨ho1, ho2, ho3, ho4, ho5⟩, ho6⟩, ho7⟩ := hok
  subst ho1
  have hsl := qsr_len hS
  have hta := qsr_rev (qsr_take (qNa b) hS)
  have htr := qsr_drop (qNa b) hS
  have hst : st = (st.take (qNa b)).reverse.reverse ++ st.drop (qNa b) := by rw [List.reverse_reverse, List.take_append_drop]
  have hasl : (S.take (qNa b)).reverse.length = qNa b := by rw [List.length_reverse, List.length_take]; omega
  have havl : (st.take (qNa b)).reverse.length = qNa b := by rw [List.length_reverse, List.length_take]; omega
  generalize (S.take (qNa b)).reverse = as at *
  generalize (st.take (qNa b)).reverse = avs at *
  have hM := qMet ih l (D := D) (sz := H.size) he1 ho2 (by omega) hnl hta hh
  have hfree : ∀ q, va_A ws H.size q → A q := by
    rintro q (⟨j, e0, hj⟩ | h)
    · exact hD.2 j (q, e0) hj
    · exact hA q (Nat.le_trans hSS.1 h)
  have hcw : ∀ nn, (parseMethodDescriptor (qy b).desc).map (fun d => d.parameters.length) = some nn → CallB R s args (qR (qCl k)) a.toNat (qy b) (qb b) (qNl b) (qret b) (qws b) (qrm b σ σ1) (σ1.1.length - σ.1.length) (qsz σ1.1 - qsz σ.1) nn := fun nn hnn =>
    callB_of nn hts (qws_good ho2) rfl rfl rfl (by rw [(qm3 ho2).1]; exact hts _ (qcp_at (qm3 ho2).2.1).2) (hts _ (qml_at ho6)) ⟨(qm3 ho2).2.2.2.2.1, (qm3 ho2).2.2.2.2.2.1, hnn⟩ ⟨by show (qfr b).1 + 1 ≤ R.frames; omega, by show 8 + (qNl b + 11) + (qfr b).2 ≤ R.locals; omega⟩
  have hblind : FrameBlind (qPc D ws tys H.size avs) := fun a U g mk q => by
    obtain ⟨q0, q1, qP, qK, qD, qO⟩ := q
    exact ⟨q0, q1, qP, va_K.moved (u := U) (U := U.calling g mk a) (Vm.Alike.refl U.vm) qK, qD, qAO_moved (u := U) (U := U.calling g mk a) (Vm.Alike.refl U.vm) qO⟩
  have hPc : ∀ U : State, U.heap = H → s.WarmedH U.vm → qPc D ws tys H.size avs avs.toArray U := fun U hU hW => ⟨rfl, by rw [hU], by rw [hU]; exact hP, va_K.moved hW.alike hK, hD.weaken (fun _ _ _ _ => trivial), qAO_moved hW.alike hAO⟩
  have hsum : ((st.drop (qNa b)).map fun v => v.category).sum ≤ 8 := by
    have := qsr_cat2 htr
    rw [List.length_drop] at this
    omega
  have hroom : cells + (σ1.1.length - σ.1.length) ≤ R.cells ∧ slots + (qsz σ1.1 - qsz σ.1) ≤ R.slots := ⟨by omega, by omega⟩
  have hNls : ls.size = qNl k := hL.1.trans hNl
  have KK : ∀ (v : Option Value) (st₀ t : State) (L1 : List Loc), st₀.heap = H → (∀ q ∈ L1, va_A ws H.size q.base) → s.vm.Alike t.vm → qQ D (va_A ws H.size) ws r1 σ1 avs.toArray st₀ (.returned v) t → W p l e R s m args below meth c t.heap (locs ++ L1) (cells + (σ1.1.length - σ.1.length)) (slots + (qsz σ1.1 - qsz σ.1)) (MQ below (qQ D A ws0 r σ') args s (σ'.1.length - n0) (qsz σ'.1 - z0) A) (F0 m (pc + 3) ls (v.toList ++ st.drop (qNa b))) := by
    intro v st₀ t L1 h0 hL1 hal hq
    obtain ⟨⟨v', ws', tys', hv, hrr, hext, hh', hP', hK', hD'⟩, hF⟩ := hq
    cases hv
    have hstk : qsr ws' (if qRt b = 0 then S.drop (qNa b) else r1 :: S.drop (qNa b)) (v.toList ++ st.drop (qNa b)) := by
      obtain ⟨g0, g1⟩ := qev_ret _ _ _ _ _ _ _ _ ho2 he1
      by_cases h9 : qRt b = 0
      · rw [if_pos h9]
        have := g0 h9
        subst this
        have : v = none := hrr
        subst this
        exact qsr_ext hext htr
      · rw [if_neg h9]
        obtain ⟨x, rfl⟩ := g1 h9
        obtain ⟨w, hw, rfl⟩ := hrr
        exact ⟨hw, qsr_ext hext htr⟩
    refine ih k (pc + 3) L _ σ1 r σ' hev C0 ⟨hh', hP', va_K.moved hal.symm hK', hD'.weaken (fun _ q _ h => hfree q.1 h), ?_⟩ (qlr_ext hext hL) hstk hNl hA (qext_tr hx0 hext) (by omega) (by omega) hr1 hr2
    obtain ⟨hF1, hF2⟩ := hF
    rw [h0] at hF1 hF2
    refine ⟨Nat.le_trans hSS.1 hF1, fun q h1 h2 => ?_, fun q hq => ?_⟩
    · rw [hF2 q (Nat.lt_of_lt_of_le h1 hSS.1) (fun z => h2 (hfree q z))]
      exact hSS.2.1 q h1 h2
    · rcases List.mem_append.mp hq with h | h
      · exact hSS.2.2 q h
      · exact hfree _ (hL1 q h)
  have hmp := List.all_eq_true.mp qmp_ok2 b (List.mem_range.mpr ho2)
  have hki : qKi b = 0 ∨ qKi b = 1 ∨ qKi b = 2 := by
    rcases Nat.lt_or_ge (qKi b) 3 with h | h
    · omega
    · obtain ⟨y, hy⟩ : ∃ y, qKi b = y + 3 := ⟨qKi b - 3, by omega⟩
      unfold qrcv at hrc
      rw [hy] at hrc
      rw [Bool.and_eq_true] at hrc
      exact absurd (show false = true from hrc.2) (by decide)
  rcases hki with hki | hki | hki
  · rw [hki] at hmp ho7
    have hmp := of_decide_eq_true hmp
    simp only [qdec, decide_eq_true_eq] at ho7
    refine qgo (va_runS (As := avs) (rest := st.drop (qNa b)) ⟨hx, hb, hml, hown, hts⟩ hM ⟨hcw _ hmp.2, hts _ (qtb_at hmp.1 rfl)⟩ ⟨hblind, hPc⟩ rfl havl hNls hst (lv_room hsum) ho7 hroom) KK
  · rw [hki] at hmp ho7
    have hmp := of_decide_eq_true hmp
    simp only [qdec, decide_eq_true_eq] at ho7
    simp only [qrcv, hki] at hrc
    rw [Bool.and_eq_true] at hrc
    obtain ⟨-, hrc⟩ := hrc
    split at hrc
    · rename_i k0 as'
      have hrc := of_decide_eq_true hrc
      cases avs with
      | nil => cases hta
      | cons v0 As =>
        obtain ⟨q, hq, rfl⟩ := hta.1
        obtain ⟨e0, he, fs, rfl, -⟩ := qhr_at hh hrc hq
        obtain ⟨nn, hnn, hnn2⟩ := Option.map_eq_some_iff.mp hmp.2.2
        have hAs : As.length = nn.parameters.length := by simp at havl; omega
        have hrecv := va_recv hK hP (qvw (by rcases (qm3 ho2).2.2.1 with h9 | h9 <;> omega)) he
        refine qgo (va_runV (As := As) (C := qR (qCl b)) (rest := st.drop (qNa b)) ⟨hx, hb, hml, hown, hts⟩ hM ⟨hcw nn.parameters.length (by rw [hnn]; rfl), hts _ (qtb_at hmp.1 rfl), hts _ (qtb_at hmp.2.1 rfl)⟩ ⟨hblind, hrecv, hPc⟩ rfl hAs hNls ?_ (lv_room hsum) ho7 hroom) KK
        show st = As.reverse ++ .ref q :: st.drop (qNa b)
        rw [List.reverse_cons, List.append_assoc] at hst
        exact hst
    · cases hrc
  · rw [hki] at hmp ho7
    have hmp := of_decide_eq_true hmp
    simp only [qdec, decide_eq_true_eq] at ho7
    simp only [qrcv, hki] at hrc
    rw [Bool.and_eq_true] at hrc
    obtain ⟨-, hrc⟩ := hrc
    split at hrc
    · rename_i k0 as'
      cases avs with
      | nil => cases hta
      | cons v0 As =>
        obtain ⟨q, hq, rfl⟩ := hta.1
        obtain ⟨nn, hnn, hnn2⟩ := Option.map_eq_some_iff.mp hmp.2.2.2
        have hAs : As.length = nn.parameters.length := by simp at havl; omega
        have hcw1 := hcw nn.parameters.length (by rw [hnn]; rfl)
        rw [hmp.2.2.1] at hcw1
        refine qgo (va_runI (As := As) (rest := st.drop (qNa b)) ⟨hx, hb, hml, hown, hts⟩ hM ⟨hcw1, hmp.2.1, hts _ (qtb_at hmp.1 rfl)⟩ ⟨hblind, hPc⟩ rfl hAs hNls ?_ (lv_room hsum) ho7 hroom) KK
        show st = As.reverse ++ .ref q :: st.drop (qNa b)
        rw [List.reverse_cons, List.append_assoc] at hst
        exact hst
    · cases hrc
theorem qsound : ∀ n, qSound n := by
  intro n
  induction n with
  | zero => intro k pc L S σ r σ' h; exact absurd h (by simp [qev])
  | succ n ih =>
    intro k pc L S σ r σ' h p l e R s m args below meth c H locs cells slots D A n0 z0 ws0 ws tys ls st C Hp hL hS hNl hA hx0 hc1 hc2 hr1 hr2
    change qbody (qev n) k pc L S σ = _ at h
    unfold qbody at h
    split at h
    · cases h
    · rename_i op a b cl nx hcd
      split at h
      · split at h
        · rename_i pc' L' S' σ1 hs
          exact qsound_step ih hcd hs h C Hp hL hS hNl hA hx0 hc1 hc2 hr1 hr2
        · cases h
      · split at h
        · rename_i ho
          subst ho
          split at h
          · rename_i hg
            split at h
            · rename_i r1 σ1 hs
              exact qsound_call ih hcd hg hs h C Hp hL hS hNl hA hx0 hc1 hc2 hr1 hr2
            · cases h
          · cases h
        · have hok := qk_all k C.1 pc _ hcd
          obtain ⟨hkN, hx, hb, hml, hown, hts, hret, hlk, hnm, hRf, hRl, hAO⟩ := C
          obtain ⟨hh, hP, hK, hD, hSS⟩ := Hp
          split at h
          · rename_i ho
            subst ho
            simp only [qok, qdec, Bool.and_eq_true, decide_eq_true_eq] at hok
            split at h
            · simp only [Option.some.injEq, Prod.mk.injEq] at h
              obtain ⟨rfl, rfl⟩ := h
              obtain ⟨st', rfl, hq, hS⟩ := qsr_int hS
              cases qsr_nil hS
              rw [show σ.1.length - n0 = cells by omega, show qsz σ.1 - z0 = slots by omega]
              exact W.iret hx hb (hret.trans (qrt1 hkN hok.2)) (fun t ht hW => ⟨⟨_, ws, tys, rfl, ⟨_, ⟨rfl, hq⟩, rfl⟩, hx0, hh, by rw [ht]; exact hP, va_K.moved hW.alike hK, hD⟩, hSS.F ht⟩) hSS.2.2 hok.1 hlk
            · cases h
          · split at h
            · rename_i ho
              subst ho
              simp only [qok, qdec, Bool.and_eq_true, decide_eq_true_eq] at hok
              split at h
              · split at h
                · rename_i x hx01
                  simp only [Option.some.injEq, Prod.mk.injEq] at h
                  obtain ⟨rfl, rfl⟩ := h
                  obtain ⟨st', rfl, hq, hS⟩ := qsr_int hS
                  cases qsr_nil hS
                  rw [show σ.1.length - n0 = cells by omega, show qsz σ.1 - z0 = slots by omega]
                  exact W.zret hx hb (hret.trans (qrt2 hkN hok.2)) (by rcases hx01 with h1 | h1 <;> rw [h1] <;> rfl) (fun t ht hW => ⟨⟨_, ws, tys, rfl, ⟨_, ⟨rfl, hq⟩, rfl⟩, hx0, hh, by rw [ht]; exact hP, va_K.moved hW.alike hK, hD⟩, hSS.F ht⟩) hSS.2.2 hok.1 hlk
                · cases h
              · cases h
            · split at h
              · rename_i ho
                subst ho
                simp only [qok, qdec, Bool.and_eq_true, decide_eq_true_eq] at hok
                split at h
                · simp only [Option.some.injEq, Prod.mk.injEq] at h
                  obtain ⟨rfl, rfl⟩ := h
                  obtain ⟨q, st', rfl, hq, hS⟩ := qsr_ref hS
                  cases qsr_nil hS
                  rw [show σ.1.length - n0 = cells by omega, show qsz σ.1 - z0 = slots by omega]
                  obtain ⟨nm, hrt⟩ := qrt3 hkN hok.2
                  exact W.aret hx hb (hret.trans hrt) (Or.inl ⟨nm, rfl⟩) (Or.inr ⟨q, rfl⟩) (fun t ht hW => ⟨⟨_, ws, tys, rfl, ⟨_, ⟨q, hq, rfl⟩, rfl⟩, hx0, hh, by rw [ht]; exact hP, va_K.moved hW.alike hK, hD⟩, hSS.F ht⟩) hSS.2.2 hok.1 hlk
                · cases h
              · split at h
                · rename_i ho
                  subst ho
                  simp only [qok, qdec, Bool.and_eq_true, decide_eq_true_eq] at hok
                  split at h
                  · simp only [Option.some.injEq, Prod.mk.injEq] at h
                    obtain ⟨rfl, rfl⟩ := h
                    cases qsr_nil hS
                    rw [show σ.1.length - n0 = cells by omega, show qsz σ.1 - z0 = slots by omega]
                    exact W.vret hx hb (hret.trans (qrt0 hkN hok.2)) (fun t ht hW => ⟨⟨none, ws, tys, rfl, rfl, hx0, hh, by rw [ht]; exact hP, va_K.moved hW.alike hK, hD⟩, hSS.F ht⟩) hSS.2.2 hok.1 hlk
                  · cases h
                · split at h
                  · rename_i ho
                    subst ho
                    simp only [qok, qdec, Bool.and_eq_true, decide_eq_true_eq] at hok
                    split at h
                    · simp only [Option.some.injEq, Prod.mk.injEq] at h
                      obtain ⟨rfl, rfl⟩ := h
                      obtain ⟨st', rfl, hS1⟩ := qsr_long hS
                      cases qsr_nil hS1
                      rw [show σ.1.length - n0 = cells by omega, show qsz σ.1 - z0 = slots by omega]
                      exact W.lret hx hb (hret.trans (qrt4 hkN hok.2)) (fun t ht hW => ⟨⟨_, ws, tys, rfl, ⟨_, rfl, rfl⟩, hx0, hh, by rw [ht]; exact hP, va_K.moved hW.alike hK, hD⟩, hSS.F ht⟩) hSS.2.2 hok.1 hlk
                    · cases h
                  · cases h
