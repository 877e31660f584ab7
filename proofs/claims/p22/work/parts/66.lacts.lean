/-! acts: one action, its answer, what it leaves, undone or not -/
variable {m : Nat → Int → Int} {r : Nat → Int → Option Nat} {w : qWd}
theorem qr_callXV {k pc : Nat} {L S : List qA} {T : List (Nat × Nat)} {m : Nat → Int → Int} {r : Nat → Int → Option Nat} {Q : qA → qM → Prop} {a : Int} {b : Nat} {c : List Nat} {nx : Nat} {L0 : List qA} {P : (Nat → Int → Int) → (Nat → Int → Option Nat) → Prop} (hc : qcd k pc = some (40, a, b, c, nx)) (h1 : qW b 0 L0 [] (T, m, r) (fun x σ => ∃ (m' : Nat → Int → Int) (r' : Nat → Int → Option Nat), σ = (qT0, m', r') ∧ x = none ∧ P m' r')) (hr : qrcv b (S.take (qNa b)).reverse (T, m, r) = true) (hn : (Nat.ble (qNa b) S.length && Nat.ble S.length (qNa b + 4) && Nat.ble (qNa b) (qNl b)) = true := by rfl) (hL : qent b (S.take (qNa b)).reverse = L0 := by rfl) (ht : qRt b = 0 := by decide)
    (w : ∀ m' r', P m' r' → qW k nx L (S.drop (qNa b)) (qT0, m', r') Q) : qW k pc L S (T, m, r) Q :=
  qr_callV hc h1 hr hn hL ht (fun x σ' h => by obtain ⟨m', r', rfl, rfl, hp⟩ := h; exact w m' r' hp)
theorem qNe_ge (l : List Int) : 0 ≤ qNe l := by
  induction l with
  | nil => simp [qNe]
  | cons f t ih =>
    simp only [qNe]
    split <;> omega
theorem qSm_ge {g : Nat → Int} (h : ∀ i, 0 ≤ g i) : ∀ k i : Nat, 0 ≤ qSm k i g := by
  intro k
  induction k with
  | zero => intro i; exact Int.le_refl _
  | succ k ih =>
    intro i
    simp only [qSm]
    have := h i
    have := ih (i + 1)
    omega
theorem qPush_ln {hs : List qAS} (c : qAS) (h : hs.length ≤ 5) : (qPush hs c).length = if hs.length < 5 then hs.length + 1 else 5 := by
  unfold qPush
  split
  · simp
  · rw [List.length_append, List.length_tail]
    simp only [List.length_cons, List.length_nil]
    omega
theorem fRecord_bd (hx : qXN w) {i : Int} : (-1 ≤ fRecord w i 1 ∧ fRecord w i 1 ≤ 20) ∧ -1 ≤ fRecord w i 2 ∧ fRecord w i 2 ≤ 20 := by
  by_cases h : qAt (qRs w.1) i = -9
  · rw [fRecord_9 h, fRecord_9 h]
    omega
  · have d5 : (qFr' w.1 i).length ≤ 20 := (qWs_gf hx.1.1.1 _).1
    have d4 := qLv_rng (qFr' w.1 i)
    rw [fRecord_1 h, fRecord_2 h]
    omega
theorem aDisc (i : Int) : (fDiscard w i < 0 ∧ gDiscard w i = w) ∨ (0 ≤ fDiscard w i ∧ ∃ a', gDiscard w i = (a', qPush w.2.1 w.1, w.2.2)) := by
  unfold fDiscard gDiscard
  by_cases h : qAt (qRs w.1) i = -9
  · rw [if_pos h, if_pos h]
    exact Or.inl ⟨by decide, rfl⟩
  · rw [if_neg h, if_neg h]
    exact Or.inr ⟨qNe_ge _, _, rfl⟩
theorem aBnd {b : Int} (hb : 1 ≤ b ∧ b ≤ 10) : 0 ≤ fSetBound w b ∧ ∃ a', gSetBound w b = (a', qPush w.2.1 w.1, w.2.2) := by
  unfold fSetBound gSetBound
  rw [if_pos hb, if_pos hb]
  refine ⟨qSm_ge (fun i => ?_) _ _, _, rfl⟩
  try dsimp only
  split <;> omega
theorem qGet_rc {a : qAS} {i : Nat} (hi : i < a.2.2.2.length) (e : Int × List Int) : qAt (qRs (qRc a (a.2.2.2.set i e))) i = e.1 ∧ ∀ lf, qVv (qRc a (a.2.2.2.set i e)) i lf = e.2.getD lf.toNat 0 := by
  constructor
  · have h := qRs_at (qRc a (a.2.2.2.set i e)) (i := i) (by
      show i < (a.2.2.2.set i e).length
      rw [List.length_set]
      exact hi)
    rw [h]
    show ((a.2.2.2.set i e)[i]'(by rw [List.length_set]; exact hi)).1 = e.1
    rw [List.getElem_set_self]
  · intro lf
    unfold qVv
    show (((a.2.2.2.set i e).getD (i : Int).toNat (-9, [])).2).getD lf.toNat 0 = _
    rw [Int.toNat_natCast, List.getD_eq_getElem?_getD (l := a.2.2.2.set i e), List.getElem?_set_self hi]
    rfl
theorem aChg (hx : qXN w) {i p v : Int} : (fChange w i p v < 0 ∧ gChange w i p v = w) ∨ (0 ≤ fChange w i p v ∧ fChange w i p v = fValue w i p ∧ fValue (gChange w i p v) i p = v ∧ ∃ a', gChange w i p v = (a', qPush w.2.1 w.1, w.2.2)) := by
  by_cases h1 : qAt (qRs w.1) i = -9 ∨ ¬ (0 ≤ p ∧ p < w.1.1.length) ∨ v < 0 ∨ 999 < v
  · refine Or.inl ⟨?_, ?_⟩
    · unfold fChange
      rw [if_pos h1]
      decide
    · unfold gChange
      rw [if_pos (by
        rcases h1 with h | h | h | h
        · exact Or.inl h
        · exact Or.inr (Or.inl h)
        · exact Or.inr (Or.inr (Or.inl h))
        · exact Or.inr (Or.inr (Or.inr (Or.inl h))))]
  · have h9 : qAt (qRs w.1) i ≠ -9 := fun e => h1 (Or.inl e)
    have hp : 0 ≤ p ∧ p < w.1.1.length := Classical.byContradiction (fun e => h1 (Or.inr (Or.inl e)))
    by_cases h2 : qLp (qFr' w.1 i) p 0 = -9
    · refine Or.inl ⟨?_, ?_⟩
      · unfold fChange
        rw [if_neg h1, if_pos h2]
        decide
      · unfold gChange
        rw [if_pos (Or.inr (Or.inr (Or.inr (Or.inr h2))))]
    · have hr := fValue_rng hx h9 hp h2
      have hfv := fValue_yes h9 hp h2
      have hf : fChange w i p v = qVv w.1 i (qLp (qFr' w.1 i) p 0) := by
        unfold fChange
        rw [if_neg h1, if_neg h2]
      have hg : gChange w i p v = gAct w (aChange w.1 i p v) := by
        unfold gChange
        rw [if_neg (fun e => by
          rcases e with e | e | e | e | e
          · exact h9 e
          · exact e hp
          · exact h1 (Or.inr (Or.inr (Or.inl e)))
          · exact h1 (Or.inr (Or.inr (Or.inr e)))
          · exact h2 e)]
      refine Or.inr ⟨by rw [hf]; exact hr.1, by rw [hf, hfv], ?_, aChange w.1 i p v, by rw [hg]; rfl⟩
      rw [hg]
      obtain ⟨q1, q2⟩ := qHas_lt h9
      obtain ⟨i, rfl⟩ : ∃ y : Nat, i = y := ⟨i.toNat, by omega⟩
      have hgr := qGet_rc (a := w.1) (i := i) (by omega) ((qGet w.1 i).1, (qGet w.1 i).2.set (qLp (qFr' w.1 i) p 0).toNat v)
      have e1 : aChange w.1 i p v = qRc w.1 (w.1.2.2.2.set i ((qGet w.1 i).1, (qGet w.1 i).2.set (qLp (qFr' w.1 i) p 0).toNat v)) := by
        unfold aChange
        rw [Int.toNat_natCast]
      have e2 := qGet_1 w.1 (i := i) (by omega)
      have hlp := qLp_rg (qFr' w.1 i) p 0 (by have := hx.1.1.1.1.1; omega) (by omega) h2
      have hlen := (qRv_of hx.1.1.1 i h9).1
      have hs : qAt (qRs (aChange w.1 i p v)) i = qAt (qRs w.1) i := by
        rw [e1, hgr.1]
        exact e2
      have hfr : qFr' (aChange w.1 i p v) i = qFr' w.1 i := by
        unfold qFr'
        rw [hs]
        rfl
      have hp2 : 0 ≤ p ∧ p < (gAct w (aChange w.1 i p v)).1.1.length := hp
      rw [fValue_yes (w := gAct w (aChange w.1 i p v)) (by show qAt (qRs (aChange w.1 i p v)) i ≠ -9; rw [hs]; exact h9) hp2 (by show qLp (qFr' (aChange w.1 i p v) i) p 0 ≠ -9; rw [hfr]; exact h2)]
      show qVv (aChange w.1 i p v) i (qLp (qFr' (aChange w.1 i p v) i) p 0) = v
      rw [hfr, e1, hgr.2, List.getD_eq_getElem?_getD, List.getElem?_set_self (by omega)]
      rfl
theorem aDrp (hx : qXN w) {i p : Int} : (fDrop w i p < 0 ∧ gDrop w i p = w) ∨ (0 ≤ fDrop w i p ∧ fRecord (gDrop w i p) i 0 = fDrop w i p ∧ fValue (gDrop w i p) i p = -9 ∧ fRecord (gDrop w i p) i 1 + fRecord (gDrop w i p) i 2 < fRecord w i 1 + fRecord w i 2 ∧ ∃ a', gDrop w i p = (a', qPush w.2.1 w.1, w.2.2)) := by
  by_cases h1 : qAt (qRs w.1) i = -9 ∨ ¬ (0 ≤ p ∧ p < w.1.1.length)
  · refine Or.inl ⟨?_, ?_⟩
    · unfold fDrop
      rw [if_pos h1]
      decide
    · unfold gDrop
      rw [if_pos (by
        rcases h1 with h | h
        · exact Or.inl h
        · exact Or.inr (Or.inl h))]
  · have h9 : qAt (qRs w.1) i ≠ -9 := fun e => h1 (Or.inl e)
    have hp : 0 ≤ p ∧ p < w.1.1.length := Classical.byContradiction (fun e => h1 (Or.inr e))
    by_cases h2 : ¬ (p ∈ qFr' w.1 i) ∧ ¬ (100 + p ∈ qFr' w.1 i)
    · refine Or.inl ⟨?_, ?_⟩
      · unfold fDrop
        rw [if_neg h1, if_pos h2]
        decide
      · unfold gDrop
        rw [if_pos (Or.inr (Or.inr (Or.inl h2)))]
    · by_cases h3 : 40 ≤ qDsh w.1 i p
      · refine Or.inl ⟨?_, ?_⟩
        · unfold fDrop
          rw [if_neg h1, if_neg h2, if_pos h3]
          decide
        · unfold gDrop
          rw [if_pos (Or.inr (Or.inr (Or.inr h3)))]
      · have hf : fDrop w i p = (qDsh w.1 i p : Nat) := by
          unfold fDrop
          rw [if_neg h1, if_neg h2, if_neg h3]
        have hg : gDrop w i p = gAct w (aDrop w.1 i p) := by
          unfold gDrop
          rw [if_neg (fun e => by
            rcases e with e | e | e | e
            · exact h9 e
            · exact e hp
            · exact h2 e
            · exact h3 e)]
        rw [hf, hg]
        obtain ⟨q1, q2⟩ := qHas_lt h9
        obtain ⟨i, rfl⟩ : ∃ y : Nat, i = y := ⟨i.toNat, by omega⟩
        have e1 : aDrop w.1 i p = qRc (w.1.1, qLs w.1.2.1 (qDsh w.1 i p) (qRes w.1.1 p (qFr' w.1 i)), w.1.2.2.1, w.1.2.2.2) (w.1.2.2.2.set i ((qDsh w.1 i p : Nat), qDl w.1.1 p (qFr' w.1 i) (qGet w.1 i).2)) := by
          unfold aDrop
          rw [Int.toNat_natCast]
          rfl
        have hgr := qGet_rc (a := (w.1.1, qLs w.1.2.1 (qDsh w.1 i p) (qRes w.1.1 p (qFr' w.1 i)), w.1.2.2.1, w.1.2.2.2)) (i := i) (by show i < w.1.2.2.2.length; omega) ((qDsh w.1 i p : Nat), qDl w.1.1 p (qFr' w.1 i) (qGet w.1 i).2)
        have hs : qAt (qRs (aDrop w.1 i p)) i = (qDsh w.1 i p : Nat) := by
          rw [e1]
          exact hgr.1
        have hla := qLs_at (ss := w.1.2.1) (fs := qRes w.1.1 p (qFr' w.1 i))
        have hfr : qFr' (aDrop w.1 i p) i = qRes w.1.1 p (qFr' w.1 i) := by
          unfold qFr'
          rw [hs]
          exact hla.1
        have hn : qAt (qRs (gAct w (aDrop w.1 i p)).1) i ≠ -9 := by
          show qAt (qRs (aDrop w.1 i p)) i ≠ -9
          rw [hs]
          omega
        have hwi : ∀ f : Int, qPa f = p → qWi w.1.1 4 (qPa f) p = true := fun f hf => by
          simp only [qWi]
          rw [if_neg (by omega), if_pos hf]
        have hpp : qPa p = p := if_neg (by have := hx.1.1.1.1.1; omega)
        have hpp2 : qPa (100 + p) = p := by
          show (if 100 ≤ 100 + p then 100 + p - 100 else 100 + p) = p
          rw [if_pos (by omega)]
          omega
        have hnm : p ∉ qRes w.1.1 p (qFr' w.1 i) := fun hm => by
          have h5 := (List.mem_filter.mp hm).2
          rw [hwi p hpp] at h5
          cases h5
        refine Or.inr ⟨by omega, ?_, ?_, ?_, _, rfl⟩
        · rw [fRecord_0 hn]
          exact hs
        · refine fValue_no hn hp ?_
          show qLp (qFr' (aDrop w.1 i p) i) p 0 = -9
          rw [hfr, qLp_none _ _ 0 (by omega)]
          exact hnm
        · rw [fRecord_1 hn, fRecord_2 hn, fRecord_1 h9, fRecord_2 h9]
          show qLv (qFr' (aDrop w.1 i p) i) + (((qFr' (aDrop w.1 i p) i).length : Nat) - qLv (qFr' (aDrop w.1 i p) i)) < _
          rw [hfr]
          have hlt : (qRes w.1.1 p (qFr' w.1 i)).length < (qFr' w.1 i).length := by
            have hex : ∃ f ∈ qFr' w.1 i, qPa f = p := by
              by_cases h5 : p ∈ qFr' w.1 i
              · exact ⟨p, h5, hpp⟩
              · exact ⟨100 + p, Classical.byContradiction (fun e => h2 ⟨h5, e⟩), hpp2⟩
            obtain ⟨f, hf, e⟩ := hex
            have key : ∀ (l : List Int), f ∈ l → (qRes w.1.1 p l).length < l.length := by
              intro l
              induction l with
              | nil => intro h; cases h
              | cons g t ih =>
                intro h
                have hle := qRes_le w.1.1 p t
                rw [qRes_cons, List.length_append, List.length_cons]
                rcases List.mem_cons.mp h with h | h
                · subst h
                  rw [if_pos (hwi f e)]
                  simp only [List.length_nil]
                  omega
                · have := ih h
                  split <;> simp only [List.length_cons, List.length_nil] <;> omega
            exact key _ hf
          omega
theorem aRd {t : List Int} {P : List (Int × Int)} {fs ns : List Int} {op nm : Int} (hg : qGo t (qSt0 w.1.1) 0 = (t.length, (P, fs, ns, 7, 0, op, nm))) : (fRead (w.1, w.2.1, t) = -3 ∧ (gRead (w.1, w.2.1, t)).1 = w.1 ∧ (gRead (w.1, w.2.1, t)).2.1 = w.2.1) ∨ (fRead (w.1, w.2.1, t) = (w.1.2.2.2.length : Nat) ∧ ∃ a', gRead (w.1, w.2.1, t) = (a', qPush w.2.1 w.1, []) ∧ qAt (qRs a') (w.1.2.2.2.length : Nat) ≠ -9 ∧ qTx (gRead (w.1, w.2.1, t)) w.1.2.2.2.length = qText P (qnvL ns) fs) := by
  have hr : qRun (w.1, w.2.1, t) = (t.length, (P, fs, ns, 7, 0, op, nm)) := hg
  have hb : ¬ ((qRun (w.1, w.2.1, t)).1 < t.length ∨ (qRun (w.1, w.2.1, t)).2.2.2.2.1 ≠ 7) := by
    rw [hr]
    dsimp only
    omega
  unfold fRead gRead
  dsimp only
  rw [if_neg hb]
  by_cases hc : 30 ≤ w.1.2.2.2.length ∨ 60 < (qRun (w.1, w.2.1, t)).2.1.length ∨ 40 ≤ qRsh (w.1, w.2.1, t)
  · rw [if_pos hc, if_pos (Or.inr hc)]
    exact Or.inl ⟨rfl, rfl, rfl⟩
  · rw [if_neg hc, if_neg (fun e => by rcases e with e | e; exact hb e; exact hc e)]
    have hsh : qRsh (w.1, w.2.1, t) = qFs w.1.2.1 fs 0 := by
      unfold qRsh
      rw [hr]
    have hla := qLs_at (ss := w.1.2.1) (fs := fs)
    have ha : aRead (w.1, w.2.1, t) = (P, qLs w.1.2.1 (qFs w.1.2.1 fs 0) fs, w.1.2.2.1, w.1.2.2.2 ++ [(((qFs w.1.2.1 fs 0 : Nat) : Int), ns)]) := by
      unfold aRead
      rw [hsh, hr]
    rw [ha]
    have e1 : qAt (qRs (P, qLs w.1.2.1 (qFs w.1.2.1 fs 0) fs, w.1.2.2.1, w.1.2.2.2 ++ [(((qFs w.1.2.1 fs 0 : Nat) : Int), ns)])) (w.1.2.2.2.length : Nat) = (qFs w.1.2.1 fs 0 : Nat) := by
      rw [qRs_at _ (i := w.1.2.2.2.length) (by show w.1.2.2.2.length < (w.1.2.2.2 ++ [_]).length; rw [List.length_append]; simp)]
      show (w.1.2.2.2 ++ [(((qFs w.1.2.1 fs 0 : Nat) : Int), ns)])[w.1.2.2.2.length].1 = _
      rw [List.getElem_append_right (Nat.le_refl _)]
      simp
    refine Or.inr ⟨rfl, _, rfl, by rw [e1]; omega, ?_⟩
    unfold qTx
    dsimp only
    have e2 : qFr' (P, qLs w.1.2.1 (qFs w.1.2.1 fs 0) fs, w.1.2.2.1, w.1.2.2.2 ++ [(((qFs w.1.2.1 fs 0 : Nat) : Int), ns)]) (w.1.2.2.2.length : Nat) = fs := by
      unfold qFr'
      rw [e1]
      exact hla.1
    have e3 : qNvA (P, qLs w.1.2.1 (qFs w.1.2.1 fs 0) fs, w.1.2.2.1, w.1.2.2.2 ++ [(((qFs w.1.2.1 fs 0 : Nat) : Int), ns)]) (w.1.2.2.2.length : Nat) = qnvL ns := by
      funext j
      unfold qNvA qVv qnvL
      dsimp only
      rw [Int.toNat_natCast, List.getD_eq_getElem?_getD (l := w.1.2.2.2 ++ _), List.getElem?_append_right (Nat.le_refl _), Nat.sub_self]
      rfl
    rw [e2, e3]
theorem ac_F {q i p done : Int} {x12 : qA} {w' : qWd} (hO : qOb m r w') (hd : done < 0) (h1 : w'.1 = w.1) (h2 : w'.2.1.length = w.2.1.length) : qW m_Lw_acts 339 [qK 0, qI q, qK 176, qI (w.1.2.2.2.length : Nat), qI (w.2.1.length : Nat), qI i, qI p, qJ (fMark w.1), none, qI (fRecord w i 1 + fRecord w i 2), qI (fValue w i p), qI done, x12] [] (qT0, m, r) (qPe (qI 1)) := by
  have k8 : fCount w' 8 = (w.2.1.length : Nat) := by
    show ((w'.2.1.length : Nat) : Int) = _
    rw [h2]
  refine qr_il rfl rfl (w := ?_)
  refine qr_ifge rfl (fun hc => absurd hc (by omega)) (fun hc => ?_)
  refine qr_al rfl rfl (w := ?_)
  refine qr_callX rfl (pMark hO) (by rfl) (w := ?_)
  rw [h1]
  intro m r hO
  refine qr_ll rfl rfl (w := ?_)
  refine qr_lcmp rfl (w := ?_)
  refine qr_ifne rfl (fun hcf => absurd hcf (by omega)) (fun hcf => ?_)
  refine qr_al rfl rfl (w := ?_)
  refine qr_const rfl (w := ?_)
  refine qr_callX rfl (oCount hO) (qrcv1 kd_0) (w := ?_)
  intro m r ⟨hO, hm⟩
  refine qr_il rfl rfl (w := ?_)
  refine qr_icne rfl (fun hcff => absurd hcff (by omega)) (fun hcff => ?_)
  refine qr_const rfl (w := ?_)
  refine qr_goto rfl (w := ?_)
  refine qW_zreturn rfl (by first | exact Or.inl rfl | exact Or.inr rfl | (simp only [qbi]; split <;> simp)) ?_
  exact ⟨m, r, rfl, rfl, _, hO⟩
theorem ac_S {q i p done : Int} {x12 : qA} {a' : qAS} {t' : List Int} (hO : qOb m r (a', qPush w.2.1 w.1, t')) (h5 : w.2.1.length ≤ 5) (hd : 0 ≤ done) : qW m_Lw_acts 339 [qK 0, qI q, qK 176, qI (w.1.2.2.2.length : Nat), qI (w.2.1.length : Nat), qI i, qI p, qJ (fMark w.1), none, qI (fRecord w i 1 + fRecord w i 2), qI (fValue w i p), qI done, x12] [] (qT0, m, r) (qPe (qI 1)) := by
  have hpl := qPush_ln w.1 h5
  have k8 : fCount (a', qPush w.2.1 w.1, t') 8 = ((qPush w.2.1 w.1).length : Nat) := rfl
  obtain ⟨g1, g2⟩ := gUndo_push a' w.2.1 w.1 t'
  by_cases hs : w.2.1.length < 5
  · rw [if_pos hs] at hpl
    refine qr_il rfl rfl (w := ?_)
    refine qr_ifge rfl (fun hc => ?_) (fun hc => absurd hc (by omega))
    refine qr_al rfl rfl (w := ?_)
    refine qr_const rfl (w := ?_)
    refine qr_callX rfl (oCount hO) (qrcv1 kd_0) (w := ?_)
    intro m r ⟨hO, hm⟩
    refine qr_il rfl rfl (w := ?_)
    refine qr_const rfl (w := ?_)
    refine qr_icge rfl (fun hct => absurd hct (by omega)) (fun hct => ?_)
    refine qr_il rfl rfl (w := ?_)
    refine qr_const rfl (w := ?_)
    refine qr_add rfl (by omega) (w := ?_)
    refine qr_goto rfl (w := ?_)
    refine qr_icne rfl (fun hctf => absurd hctf (by omega)) (fun hctf => ?_)
    refine qr_il rfl rfl (w := ?_)
    refine qr_const rfl (w := ?_)
    refine qr_op2 rfl (w := ?_)
    refine qr_const rfl (w := ?_)
    refine qr_op2 rfl (w := ?_)
    refine qr_ifgt rfl (fun hctff => ?_) (fun hctff => ?_)
    · refine qr_const rfl (w := ?_)
      refine qr_goto rfl (w := ?_)
      refine qW_zreturn rfl (by first | exact Or.inl rfl | exact Or.inr rfl | (simp only [qbi]; split <;> simp)) ?_
      exact ⟨m, r, rfl, rfl, _, hO⟩
    · refine qr_al rfl rfl (w := ?_)
      refine qr_callX rfl (oUndo hO) (qrcv1 kd_0) (w := ?_)
      intro m r ⟨hO, hm⟩
      refine qr_il rfl rfl (w := ?_)
      refine qr_const rfl (w := ?_)
      refine qr_icge rfl (fun hctfff => absurd hctfff (by omega)) (fun hctfff => ?_)
      refine qr_il rfl rfl (w := ?_)
      refine qr_goto rfl (w := ?_)
      refine qr_icne rfl (fun hctffff => absurd hctffff (by omega)) (fun hctffff => ?_)
      refine qr_al rfl rfl (w := ?_)
      refine qr_callX rfl (pMark hO) (by rfl) (w := ?_)
      rw [g1]
      intro m r hO
      refine qr_ll rfl rfl (w := ?_)
      refine qr_lcmp rfl (w := ?_)
      refine qr_ifne rfl (fun hctfffff => absurd hctfffff (by omega)) (fun hctfffff => ?_)
      refine qr_const rfl (w := ?_)
      refine qr_goto rfl (w := ?_)
      refine qW_zreturn rfl (by first | exact Or.inl rfl | exact Or.inr rfl | (simp only [qbi]; split <;> simp)) ?_
      exact ⟨m, r, rfl, rfl, _, hO⟩
  · rw [if_neg hs] at hpl
    refine qr_il rfl rfl (w := ?_)
    refine qr_ifge rfl (fun hc => ?_) (fun hc => absurd hc (by omega))
    refine qr_al rfl rfl (w := ?_)
    refine qr_const rfl (w := ?_)
    refine qr_callX rfl (oCount hO) (qrcv1 kd_0) (w := ?_)
    intro m r ⟨hO, hm⟩
    refine qr_il rfl rfl (w := ?_)
    refine qr_const rfl (w := ?_)
    refine qr_icge rfl (fun hct => ?_) (fun hct => absurd hct (by omega))
    refine qr_const rfl (w := ?_)
    refine qr_icne rfl (fun hctt => absurd hctt (by omega)) (fun hctt => ?_)
    refine qr_il rfl rfl (w := ?_)
    refine qr_const rfl (w := ?_)
    refine qr_op2 rfl (w := ?_)
    refine qr_const rfl (w := ?_)
    refine qr_op2 rfl (w := ?_)
    refine qr_ifgt rfl (fun hcttf => ?_) (fun hcttf => ?_)
    · refine qr_const rfl (w := ?_)
      refine qr_goto rfl (w := ?_)
      refine qW_zreturn rfl (by first | exact Or.inl rfl | exact Or.inr rfl | (simp only [qbi]; split <;> simp)) ?_
      exact ⟨m, r, rfl, rfl, _, hO⟩
    · refine qr_al rfl rfl (w := ?_)
      refine qr_callX rfl (oUndo hO) (qrcv1 kd_0) (w := ?_)
      intro m r ⟨hO, hm⟩
      refine qr_il rfl rfl (w := ?_)
      refine qr_const rfl (w := ?_)
      refine qr_icge rfl (fun hcttff => ?_) (fun hcttff => absurd hcttff (by omega))
      refine qr_const rfl (w := ?_)
      refine qr_icne rfl (fun hcttfft => absurd hcttfft (by omega)) (fun hcttfft => ?_)
      refine qr_al rfl rfl (w := ?_)
      refine qr_callX rfl (pMark hO) (by rfl) (w := ?_)
      rw [g1]
      intro m r hO
      refine qr_ll rfl rfl (w := ?_)
      refine qr_lcmp rfl (w := ?_)
      refine qr_ifne rfl (fun hcttfftf => absurd hcttfftf (by omega)) (fun hcttfftf => ?_)
      refine qr_const rfl (w := ?_)
      refine qr_goto rfl (w := ?_)
      refine qW_zreturn rfl (by first | exact Or.inl rfl | exact Or.inr rfl | (simp only [qbi]; split <;> simp)) ?_
      exact ⟨m, r, rfl, rfl, _, hO⟩
theorem ac_in {q i p : Int} {w2 : qWd} {sg : List Int} {Q : qA → qM → Prop} (h9 : qAt (qRs w2.1) (w.1.2.2.2.length : Nat) ≠ -9) (ht : qTx w2 w.1.2.2.2.length = sg) (hsg : sg.length ≤ 51) : ∀ (k j : Nat) (m : Nat → Int → Int) (r : Nat → Int → Option Nat), qOb m r w2 → m 176 0 = (sg.length : Nat) → (∀ k : Nat, k < sg.length → m 176 ((k : Int) + 1) = sg.getD k 0) → j + k = sg.length → (∀ (m : Nat → Int → Int) (r : Nat → Int → Option Nat) (x12 : qA), qOb m r w2 → qW m_Lw_acts 339 [qK 0, qI q, qK 176, qI (w.1.2.2.2.length : Nat), qI (w.2.1.length : Nat), qI i, qI p, qJ (fMark w.1), none, qI (fRecord w i 1 + fRecord w i 2), qI (fValue w i p), qI (w.1.2.2.2.length : Nat), x12] [] (qT0, m, r) Q) → qW m_Lw_acts 301 [qK 0, qI q, qK 176, qI (w.1.2.2.2.length : Nat), qI (w.2.1.length : Nat), qI i, qI p, qJ (fMark w.1), none, qI (fRecord w i 1 + fRecord w i 2), qI (fValue w i p), qI (w.1.2.2.2.length : Nat), qI j] [] (qT0, m, r) Q := by
  intro k
  induction k with
  | zero =>
    intro j m r hO h0 hr hjk kk
    refine qr_il rfl rfl (w := ?_)
    refine qr_al rfl rfl (w := ?_)
    refine qr_const rfl (w := ?_)
    refine qr_ia rfl kd_row (by omega) (w := ?_)
    refine qr_icge rfl (fun hc => ?_) (fun hc => absurd hc (by omega))
    exact kk m r _ hO
  | succ k ih =>
    intro j m r hO h0 hr hjk kk
    have hch := fChar_at (w := w2) (y := w.1.2.2.2.length) h9 (k := j)
    rw [ht, qAt_lt (by omega)] at hch
    have hrj := hr j (by omega)
    rw [List.getD_eq_getElem?_getD, List.getElem?_eq_getElem (by omega)] at hrj
    have hrj : m 176 ((j : Int) + 1) = sg[j] := hrj
    refine qr_il rfl rfl (w := ?_)
    refine qr_al rfl rfl (w := ?_)
    refine qr_const rfl (w := ?_)
    refine qr_ia rfl kd_row (by omega) (w := ?_)
    refine qr_icge rfl (fun hc => absurd hc (by omega)) (fun hc => ?_)
    refine qr_il rfl rfl (w := ?_)
    refine qr_il rfl rfl (w := ?_)
    refine qr_icne rfl (fun hcf => absurd hcf (by omega)) (fun hcf => ?_)
    refine qr_al rfl rfl (w := ?_)
    refine qr_il rfl rfl (w := ?_)
    refine qr_il rfl rfl (w := ?_)
    refine qr_callX rfl (oCharacter hO) (qrcv1 kd_0) (w := ?_)
    rw [hch]
    intro m2 r ⟨hO, hm⟩
    rw [← hm] at h0 hrj
    have hr := fun k hk => (congrFun hm _).trans (hr k hk)
    refine qr_al rfl rfl (w := ?_)
    refine qr_il rfl rfl (w := ?_)
    refine qr_const rfl (w := ?_)
    refine qr_add rfl (by omega) (w := ?_)
    refine qr_ia rfl kd_row (by omega) (w := ?_)
    refine qr_iceq rfl (fun hcff => ?_) (fun hcff => absurd hcff (by omega))
    refine qr_inc12 rfl (by omega) (w := ?_)
    refine qr_goto rfl (w := ?_)
    exact ih (j + 1) m2 r hO h0 hr (by omega) kk
theorem pActs (hO : qOb m r w) {q : Int} : qW m_Lw_acts 0 [qK 0, qI q, qK 176, none, none, none, none, none, none, none, none, none, none] [] (qT0, m, r) (qPe (qI 1)) := by
  obtain ⟨b1, b2, b3, b4, b5, b6⟩ := qOb_bd hO
  have c1 : fCount w 1 = (w.1.2.2.2.length : Int) := rfl
  have c2 : fCount w 2 = (w.1.1.length : Int) := rfl
  have c8 : fCount w 8 = (w.2.1.length : Int) := rfl
  have hx := hO.2
  have hi := fUp_rng (x := qop2 3 q 4) (y := fCount w 1 + 1) (by omega)
  have hp := fUp_rng (x := qop2 3 q 9) (y := fCount w 2 + 1) (by omega)
  have hu := fUp_rng (x := q) (y := 8) (by decide)
  have hv := fUp_rng (x := qop2 3 q 12) (y := 1000) (by decide)
  have hb := fUp_rng (x := qop2 3 q 12) (y := 4) (by decide)
  have hfb := fRecord_bd hx (i := fUp (qop2 3 q 4) (fCount w 1 + 1))
  refine qr_al rfl rfl (w := ?_)
  refine qr_const rfl (w := ?_)
  refine qr_callX rfl (oCount hO) (qrcv1 kd_0) (w := ?_)
  intro m r ⟨hO, hm⟩
  refine qr_is3 rfl (w := ?_)
  refine qr_al rfl rfl (w := ?_)
  refine qr_const rfl (w := ?_)
  refine qr_callX rfl (oCount hO) (qrcv1 kd_0) (w := ?_)
  intro m r ⟨hO, hm⟩
  refine qr_is4 rfl (w := ?_)
  refine qr_il rfl rfl (w := ?_)
  refine qr_const rfl (w := ?_)
  refine qr_op2 rfl (w := ?_)
  refine qr_il rfl rfl (w := ?_)
  refine qr_const rfl (w := ?_)
  refine qr_add rfl (by omega) (w := ?_)
  refine qr_callP rfl (pUp (x := qop2 3 q 4) (y := fCount w 1 + 1) (by omega)) (by rfl) (w := ?_)
  refine qr_is5 rfl (w := ?_)
  refine qr_il rfl rfl (w := ?_)
  refine qr_const rfl (w := ?_)
  refine qr_op2 rfl (w := ?_)
  refine qr_al rfl rfl (w := ?_)
  refine qr_const rfl (w := ?_)
  refine qr_callX rfl (oCount hO) (qrcv1 kd_0) (w := ?_)
  intro m r ⟨hO, hm⟩
  refine qr_const rfl (w := ?_)
  refine qr_add rfl (by omega) (w := ?_)
  refine qr_callP rfl (pUp (x := qop2 3 q 9) (y := fCount w 2 + 1) (by omega)) (by rfl) (w := ?_)
  refine qr_is6 rfl (w := ?_)
  refine qr_al rfl rfl (w := ?_)
  refine qr_callX rfl (pMark hO) (by rfl) (w := ?_)
  intro m r hO
  refine qr_ls7 rfl (w := ?_)
  refine qr_al rfl rfl (w := ?_)
  refine qr_il rfl rfl (w := ?_)
  refine qr_const rfl (w := ?_)
  refine qr_callX rfl (oRecord hO) (qrcv1 kd_0) (w := ?_)
  intro m r ⟨hO, hm⟩
  refine qr_al rfl rfl (w := ?_)
  refine qr_il rfl rfl (w := ?_)
  refine qr_const rfl (w := ?_)
  refine qr_callX rfl (oRecord hO) (qrcv1 kd_0) (w := ?_)
  intro m r ⟨hO, hm⟩
  refine qr_add rfl (by omega) (w := ?_)
  refine qr_is9 rfl (w := ?_)
  refine qr_al rfl rfl (w := ?_)
  refine qr_il rfl rfl (w := ?_)
  refine qr_il rfl rfl (w := ?_)
  refine qr_callX rfl (oValue hO) (qrcv1 kd_0) (w := ?_)
  intro m r ⟨hO, hm⟩
  refine qr_is10 rfl (w := ?_)
  refine qr_const rfl (w := ?_)
  refine qr_is11 rfl (w := ?_)
  refine qr_il rfl rfl (w := ?_)
  refine qr_const rfl (w := ?_)
  refine qr_callP rfl (pUp (x := q) (y := 8) (by decide)) (by rfl) (w := ?_)
  generalize fUp (qop2 3 q 4) (fCount w 1 + 1) = i at *
  generalize fUp (qop2 3 q 9) (fCount w 2 + 1) = p at *
  generalize fUp q 8 = z at *
  have hz : z = 0 ∨ z = 1 ∨ z = 2 ∨ z = 3 ∨ 4 ≤ z := by omega
  rcases hz with rfl | rfl | rfl | rfl | hz
  · rcases aDisc (w := w) i with ⟨d1, d2⟩ | ⟨d1, a', d2⟩
    · refine qr_swin rfl (by decide) (t := 112) rfl (w := ?_)
      refine qr_al rfl rfl (w := ?_)
      refine qr_il rfl rfl (w := ?_)
      refine qr_callX rfl (oDiscard hO) (qrcv1 kd_0) (w := ?_)
      intro m r ⟨hO, hm⟩
      refine qr_is11 rfl (w := ?_)
      refine qr_goto rfl (w := ?_)
      rw [d2] at hO
      exact ac_F hO d1 rfl rfl
    · refine qr_swin rfl (by decide) (t := 112) rfl (w := ?_)
      refine qr_al rfl rfl (w := ?_)
      refine qr_il rfl rfl (w := ?_)
      refine qr_callX rfl (oDiscard hO) (qrcv1 kd_0) (w := ?_)
      intro m r ⟨hO, hm⟩
      refine qr_is11 rfl (w := ?_)
      refine qr_goto rfl (w := ?_)
      rw [d2] at hO
      exact ac_S hO b5 d1
  · rcases aChg hx (i := i) (p := p) (v := fUp (qop2 3 q 12) 1000) with ⟨d1, d2⟩ | ⟨d1, d3, d4, a', d2⟩
    · refine qr_swin rfl (by decide) (t := 123) rfl (w := ?_)
      refine qr_al rfl rfl (w := ?_)
      refine qr_il rfl rfl (w := ?_)
      refine qr_il rfl rfl (w := ?_)
      refine qr_il rfl rfl (w := ?_)
      refine qr_const rfl (w := ?_)
      refine qr_op2 rfl (w := ?_)
      refine qr_const rfl (w := ?_)
      refine qr_callP rfl (pUp (x := qop2 3 q 12) (y := 1000) (by decide)) (by rfl) (w := ?_)
      refine qr_callX rfl (oChange hO) (qrcv1 kd_0) (w := ?_)
      intro m r ⟨hO, hm⟩
      refine qr_is11 rfl (w := ?_)
      refine qr_il rfl rfl (w := ?_)
      refine qr_iflt rfl (fun hc => ?_) (fun hc => absurd hc (by omega))
      rw [d2] at hO
      exact ac_F hO d1 rfl rfl
    · refine qr_swin rfl (by decide) (t := 123) rfl (w := ?_)
      refine qr_al rfl rfl (w := ?_)
      refine qr_il rfl rfl (w := ?_)
      refine qr_il rfl rfl (w := ?_)
      refine qr_il rfl rfl (w := ?_)
      refine qr_const rfl (w := ?_)
      refine qr_op2 rfl (w := ?_)
      refine qr_const rfl (w := ?_)
      refine qr_callP rfl (pUp (x := qop2 3 q 12) (y := 1000) (by decide)) (by rfl) (w := ?_)
      refine qr_callX rfl (oChange hO) (qrcv1 kd_0) (w := ?_)
      intro m r ⟨hO, hm⟩
      refine qr_is11 rfl (w := ?_)
      refine qr_il rfl rfl (w := ?_)
      refine qr_iflt rfl (fun hc => absurd hc (by omega)) (fun hc => ?_)
      refine qr_il rfl rfl (w := ?_)
      refine qr_il rfl rfl (w := ?_)
      refine qr_icne rfl (fun hcf => absurd hcf (by omega)) (fun hcf => ?_)
      refine qr_al rfl rfl (w := ?_)
      refine qr_il rfl rfl (w := ?_)
      refine qr_il rfl rfl (w := ?_)
      refine qr_callX rfl (oValue hO) (qrcv1 kd_0) (w := ?_)
      rw [d4]
      intro m r ⟨hO, hm⟩
      refine qr_il rfl rfl (w := ?_)
      refine qr_const rfl (w := ?_)
      refine qr_op2 rfl (w := ?_)
      refine qr_const rfl (w := ?_)
      refine qr_callP rfl (pUp (x := qop2 3 q 12) (y := 1000) (by decide)) (by rfl) (w := ?_)
      refine qr_iceq rfl (fun hcff => ?_) (fun hcff => absurd hcff (by omega))
      rw [d2] at hO
      exact ac_S hO b5 d1
  · have hfb2 := fRecord_bd (gDrop_x hx i p) (i := i)
    rcases aDrp hx (i := i) (p := p) with ⟨d1, d2⟩ | ⟨d1, d3, d4, d5, a', d2⟩
    · refine qr_swin rfl (by decide) (t := 178) rfl (w := ?_)
      refine qr_al rfl rfl (w := ?_)
      refine qr_il rfl rfl (w := ?_)
      refine qr_il rfl rfl (w := ?_)
      refine qr_callX rfl (oDrop hO) (qrcv1 kd_0) (w := ?_)
      intro m r ⟨hO, hm⟩
      refine qr_is11 rfl (w := ?_)
      refine qr_il rfl rfl (w := ?_)
      refine qr_iflt rfl (fun hc => ?_) (fun hc => absurd hc (by omega))
      rw [d2] at hO
      exact ac_F hO d1 rfl rfl
    · refine qr_swin rfl (by decide) (t := 178) rfl (w := ?_)
      refine qr_al rfl rfl (w := ?_)
      refine qr_il rfl rfl (w := ?_)
      refine qr_il rfl rfl (w := ?_)
      refine qr_callX rfl (oDrop hO) (qrcv1 kd_0) (w := ?_)
      intro m r ⟨hO, hm⟩
      refine qr_is11 rfl (w := ?_)
      refine qr_il rfl rfl (w := ?_)
      refine qr_iflt rfl (fun hc => absurd hc (by omega)) (fun hc => ?_)
      refine qr_al rfl rfl (w := ?_)
      refine qr_il rfl rfl (w := ?_)
      refine qr_const rfl (w := ?_)
      refine qr_callX rfl (oRecord hO) (qrcv1 kd_0) (w := ?_)
      intro m r ⟨hO, hm⟩
      refine qr_il rfl rfl (w := ?_)
      refine qr_icne rfl (fun hcf => absurd hcf (by omega)) (fun hcf => ?_)
      refine qr_al rfl rfl (w := ?_)
      refine qr_il rfl rfl (w := ?_)
      refine qr_il rfl rfl (w := ?_)
      refine qr_callX rfl (oValue hO) (qrcv1 kd_0) (w := ?_)
      intro m r ⟨hO, hm⟩
      refine qr_const rfl (w := ?_)
      refine qr_icne rfl (fun hcff => absurd hcff (by omega)) (fun hcff => ?_)
      refine qr_al rfl rfl (w := ?_)
      refine qr_il rfl rfl (w := ?_)
      refine qr_const rfl (w := ?_)
      refine qr_callX rfl (oRecord hO) (qrcv1 kd_0) (w := ?_)
      intro m r ⟨hO, hm⟩
      refine qr_al rfl rfl (w := ?_)
      refine qr_il rfl rfl (w := ?_)
      refine qr_const rfl (w := ?_)
      refine qr_callX rfl (oRecord hO) (qrcv1 kd_0) (w := ?_)
      intro m r ⟨hO, hm⟩
      refine qr_add rfl (by omega) (w := ?_)
      refine qr_il rfl rfl (w := ?_)
      refine qr_iclt rfl (fun hcfff => ?_) (fun hcfff => absurd hcfff (by omega))
      rw [d2] at hO
      exact ac_S hO b5 d1
  · obtain ⟨d1, a', d2⟩ := aBnd (w := w) (b := 1 + fUp (qop2 3 q 12) 4) (by omega)
    refine qr_swin rfl (by decide) (t := 240) rfl (w := ?_)
    refine qr_al rfl rfl (w := ?_)
    refine qr_const rfl (w := ?_)
    refine qr_il rfl rfl (w := ?_)
    refine qr_const rfl (w := ?_)
    refine qr_op2 rfl (w := ?_)
    refine qr_const rfl (w := ?_)
    refine qr_callP rfl (pUp (x := qop2 3 q 12) (y := 4) (by decide)) (by rfl) (w := ?_)
    refine qr_add rfl (by omega) (w := ?_)
    refine qr_callX rfl (oSetBound hO) (qrcv1 kd_0) (w := ?_)
    intro m r ⟨hO, hm⟩
    refine qr_is11 rfl (w := ?_)
    refine qr_goto rfl (w := ?_)
    rw [d2] at hO
    exact ac_S hO b5 d1
  · skip
    refine qr_swout rfl (Or.inr (by show (0 : Int) + ((4 : Nat) : Int) ≤ z; omega)) (w := ?_)
    refine qr_al rfl rfl (w := ?_)
    refine qr_il rfl rfl (w := ?_)
    refine qr_al rfl rfl (w := ?_)
    refine qr_callXV rfl (pTypes hO) (by rfl) (w := ?_)
    rintro m r ⟨t, sg, hO, h0, hr, hs1, hs2, P, fs, ns, op, nm, hg, hsg⟩
    refine qr_al rfl rfl (w := ?_)
    refine qr_callX rfl (oRead hO) (qrcv1 kd_0) (w := ?_)
    intro m2 r ⟨hO, hm⟩
    rw [← hm] at h0
    have hr := fun k hk => (congrFun hm _).trans (hr k hk)
    refine qr_is11 rfl (w := ?_)
    rcases aRd (w := w) hg with ⟨d1, d2, d3⟩ | ⟨d1, a', d2, d3, d4⟩
    · rw [d1]
      refine qr_al rfl rfl (w := ?_)
      refine qr_const rfl (w := ?_)
      refine qr_ia rfl kd_row (by omega) (w := ?_)
      refine qr_ifle rfl (fun hc => absurd hc (by omega)) (fun hc => ?_)
      refine qr_il rfl rfl (w := ?_)
      refine qr_const rfl (w := ?_)
      refine qr_icge rfl (fun hcf => ?_) (fun hcf => ?_)
      · refine qr_const rfl (w := ?_)
        refine qr_is12 rfl (w := ?_)
        refine qr_il rfl rfl (w := ?_)
        refine qr_al rfl rfl (w := ?_)
        refine qr_const rfl (w := ?_)
        refine qr_ia rfl kd_row (by omega) (w := ?_)
        refine qr_icge rfl (fun hcft => absurd hcft (by omega)) (fun hcft => ?_)
        refine qr_il rfl rfl (w := ?_)
        refine qr_il rfl rfl (w := ?_)
        refine qr_icne rfl (fun hcftf => ?_) (fun hcftf => absurd hcftf (by omega))
        exact ac_F hO (by omega) d2 (by rw [d3])
      · refine qr_il rfl rfl (w := ?_)
        refine qr_il rfl rfl (w := ?_)
        refine qr_iceq rfl (fun hcff => absurd hcff (by omega)) (fun hcff => ?_)
        refine qr_il rfl rfl (w := ?_)
        refine qr_const rfl (w := ?_)
        refine qr_iceq rfl (fun hcfff => ?_) (fun hcfff => absurd hcfff (by omega))
        refine qr_const rfl (w := ?_)
        refine qr_is12 rfl (w := ?_)
        refine qr_il rfl rfl (w := ?_)
        refine qr_al rfl rfl (w := ?_)
        refine qr_const rfl (w := ?_)
        refine qr_ia rfl kd_row (by omega) (w := ?_)
        refine qr_icge rfl (fun hcffft => absurd hcffft (by omega)) (fun hcffft => ?_)
        refine qr_il rfl rfl (w := ?_)
        refine qr_il rfl rfl (w := ?_)
        refine qr_icne rfl (fun hcffftf => ?_) (fun hcffftf => absurd hcffftf (by omega))
        exact ac_F hO (by omega) d2 (by rw [d3])
    · rw [d1]
      rw [hsg.symm] at d4
      rw [d2] at hO d4
      refine qr_al rfl rfl (w := ?_)
      refine qr_const rfl (w := ?_)
      refine qr_ia rfl kd_row (by omega) (w := ?_)
      refine qr_ifle rfl (fun hc => absurd hc (by omega)) (fun hc => ?_)
      refine qr_il rfl rfl (w := ?_)
      refine qr_const rfl (w := ?_)
      refine qr_icge rfl (fun hcf => ?_) (fun hcf => ?_)
      · refine qr_const rfl (w := ?_)
        refine qr_is12 rfl (w := ?_)
        exact ac_in (w := w) (w2 := (a', qPush w.2.1 w.1, [])) d3 d4 hs2 sg.length 0 m2 r hO h0 hr (Nat.zero_add _) (fun m r x12 hO => ac_S hO b5 (by omega))
      · refine qr_il rfl rfl (w := ?_)
        refine qr_il rfl rfl (w := ?_)
        refine qr_iceq rfl (fun hcff => ?_) (fun hcff => absurd hcff (by omega))
        refine qr_const rfl (w := ?_)
        refine qr_is12 rfl (w := ?_)
        exact ac_in (w := w) (w2 := (a', qPush w.2.1 w.1, [])) d3 d4 hs2 sg.length 0 m2 r hO h0 hr (Nat.zero_add _) (fun m r x12 hO => ac_S hO b5 (by omega))
