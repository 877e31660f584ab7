/-! The class's calls for the law: world in, answer and world out; the row (cell 176) is kept -/
def qOb (m : Nat → Int → Int) (r : Nat → Int → Option Nat) (w : qWd) : Prop := qCp m r w ∧ qXN w
abbrev qPm (m0 : Nat → Int → Int) (v : qA) (w' : qWd) : qA → qM → Prop := fun x σ => ∃ (m' : Nat → Int → Int) (r' : Nat → Int → Option Nat), σ = (qT0, m', r') ∧ x = v ∧ (qOb m' r' w' ∧ m' 176 = m0 176)
abbrev qPo (v : qA) (w' : qWd) : qA → qM → Prop := fun x σ => ∃ (m' : Nat → Int → Int) (r' : Nat → Int → Option Nat), σ = (qT0, m', r') ∧ x = v ∧ qOb m' r' w'
theorem qr_callX {k pc : Nat} {L S : List qA} {T : List (Nat × Nat)} {m : Nat → Int → Int} {r : Nat → Int → Option Nat} {Q : qA → qM → Prop} {a : Int} {b : Nat} {c : List Nat} {nx : Nat} {L0 : List qA} {v : qV} {P : (Nat → Int → Int) → (Nat → Int → Option Nat) → Prop} (hc : qcd k pc = some (40, a, b, c, nx)) (h1 : qW b 0 L0 [] (T, m, r) (fun x σ => ∃ (m' : Nat → Int → Int) (r' : Nat → Int → Option Nat), σ = (qT0, m', r') ∧ x = some v ∧ P m' r')) (hr : qrcv b (S.take (qNa b)).reverse (T, m, r) = true) (hn : (Nat.ble (qNa b) S.length && Nat.ble S.length (qNa b + 4) && Nat.ble (qNa b) (qNl b)) = true := by rfl) (hL : qent b (S.take (qNa b)).reverse = L0 := by rfl) (ht : qRt b ≠ 0 := by decide)
    (w : ∀ m' r', P m' r' → qW k nx L (some v :: S.drop (qNa b)) (qT0, m', r') Q) : qW k pc L S (T, m, r) Q :=
  qr_callA hc h1 hr hn hL ht (fun x σ' h => by obtain ⟨m', r', rfl, rfl, hp⟩ := h; exact w m' r' hp)
variable {m : Nat → Int → Int} {r : Nat → Int → Option Nat} {w : qWd}
theorem qOb_mk {b : Nat} {L : List qA} {y : Int} {w' : qWd} (h : qW b 0 L [] (qT0, m, r) (fun x σ => ∃ m' r', σ = (qT0, m', r') ∧ x = qI y ∧ qCp m' r' w' ∧ qFr (qIv 0 176) m m')) (hx : qXN w') : qW b 0 L [] (qT0, m, r) (qPm m (qI y) w') := by
  refine qW_mono h (fun x σ hq => ?_)
  obtain ⟨m', r', e1, e2, e3, e4⟩ := hq
  refine ⟨m', r', e1, e2, ⟨e3, hx⟩, e4 176 (fun e => ?_)⟩
  have e5 : 0 ≤ 176 ∧ 176 < 176 := e
  omega
theorem qOb_pure {b : Nat} {L : List qA} {y : Int} (h : qOb m r w) (h1 : qP b L (qT0, m, r) (qI y)) : qW b 0 L [] (qT0, m, r) (qPm m (qI y) w) := qW_mono h1 (fun x σ hx => ⟨m, r, hx.2, hx.1, h, rfl⟩)
theorem qOb_line {b : Nat} {L : List qA} {y : Int} {P : List (Int × Int)} {f : Nat → Nat} {vs : List Int} {hs : List qSC} {rd : qRd} {g : List Int} (hx : qXN w) (h : qW b 0 L [] (qT0, m, r) (fun x σ => ∃ m', σ = (qT0, m', r) ∧ x = qI y ∧ (∃ l, qCl0 m' r w P f vs hs rd l g) ∧ qFr (qPz 3) m m')) : qW b 0 L [] (qT0, m, r) (qPm m (qI y) w) := by
  refine qW_mono h (fun x σ hq => ?_)
  obtain ⟨m', e1, e2, ⟨l, hl⟩, hf⟩ := hq
  refine ⟨m', r, e1, e2, ⟨⟨_, _, _, _, _, l, _, hl⟩, hx⟩, hf 176 (fun e => ?_)⟩
  have e3 : 176 = 3 ∨ 176 = 4 := e
  omega
theorem oCount (h : qOb m r w) {x : Int} : qW m_LR_count 0 [qK 0, qI x] [] (qT0, m, r) (qPm m (qI (fCount w x)) w) := by
  obtain ⟨P, f, vs, hs, rd, l3, g, hC0⟩ := id h.1
  exact qOb_pure h (cLR_count hC0 h.2.1.1.1)
theorem oValue (h : qOb m r w) {i p : Int} : qW m_LR_value 0 [qK 0, qI i, qI p, none] [] (qT0, m, r) (qPm m (qI (fValue w i p)) w) := by
  obtain ⟨P, f, vs, hs, rd, l3, g, hC0⟩ := id h.1
  exact qOb_pure h (cLR_value hC0 h.2.1.1.1)
theorem oSizeWith (h : qOb m r w) {b : Int} : qW m_LR_sizeWith 0 [qK 0, qI b] [] (qT0, m, r) (qPm m (qI (fSizeWith w b)) w) := by
  obtain ⟨P, f, vs, hs, rd, l3, g, hC0⟩ := id h.1
  exact qOb_pure h (cLR_sizeWith hC0 h.2.1.1.1)
theorem oBestBound (h : qOb m r w) : qW m_LR_bestBound 0 [qK 0, none, none, none, none] [] (qT0, m, r) (qPm m (qI (fBest w )) w) := by
  obtain ⟨P, f, vs, hs, rd, l3, g, hC0⟩ := id h.1
  exact qOb_pure h (cLR_bestBound hC0 h.2.1.1.1)
theorem oLike (h : qOb m r w) {i : Int} : qW m_LR_like 0 [qK 0, qI i, none, none, none, none, none] [] (qT0, m, r) (qPm m (qI (fLike w i)) w) := by
  obtain ⟨P, f, vs, hs, rd, l3, g, hC0⟩ := id h.1
  exact qOb_pure h (cLR_like hC0 h.2.1.1.1)
theorem oField (h : qOb m r w) {s k : Int} : qW m_LR_field 0 [qK 0, qI s, qI k, none] [] (qT0, m, r) (qPm m (qI (fField w s k)) w) := by
  obtain ⟨P, f, vs, hs, rd, l3, g, hC0⟩ := id h.1
  exact qOb_pure h (cLR_field hC0 h.2.1.1.1)
theorem oColumn (h : qOb m r w) {s lf k : Int} : qW m_LR_column 0 [qK 0, qI s, qI lf, qI k, none] [] (qT0, m, r) (qPm m (qI (fColumn w s lf k)) w) := by
  obtain ⟨P, f, vs, hs, rd, l3, g, hC0⟩ := id h.1
  exact qOb_pure h (cLR_column hC0 h.2.1.1.1)
theorem oPath (h : qOb m r w) {p x : Int} : qW m_LR_path 0 [qK 0, qI p, qI x] [] (qT0, m, r) (qPm m (qI (fPath w p x)) w) := by
  obtain ⟨P, f, vs, hs, rd, l3, g, hC0⟩ := id h.1
  exact qOb_pure h (cLR_path hC0 h.2.1.1.1)
theorem oCharacter (h : qOb m r w) {i k : Int} : qW m_LR_character 0 [qK 0, qI i, qI k, none] [] (qT0, m, r) (qPm m (qI (fCharacter w i k)) w) := by
  obtain ⟨P, f, vs, hs, rd, l3, g, hC0⟩ := id h.1
  exact qOb_line h.2 (cLR_character hC0 h.2.1.1.1)
theorem oRecord (h : qOb m r w) {i x : Int} : qW m_LR_record 0 [qK 0, qI i, qI x, none] [] (qT0, m, r) (qPm m (qI (fRecord w i x)) w) := by
  obtain ⟨P, f, vs, hs, rd, l3, g, hC0⟩ := id h.1
  exact qOb_line h.2 (cLR_record hC0 h.2.1.1.1)
theorem oShape (h : qOb m r w) {s x : Int} : qW m_LR_shape 0 [qK 0, qI s, qI x, none] [] (qT0, m, r) (qPm m (qI (fShape w s x)) w) := by
  obtain ⟨P, f, vs, hs, rd, l3, g, hC0⟩ := id h.1
  exact qOb_line h.2 (cLR_shape hC0 h.2.1.1.1)
theorem oAppend (h : qOb m r w) {c : Int} : qW m_LR_append 0 [qK 0, qI c] [] (qT0, m, r) (qPm m (qI (fAppend w c)) (gAppend w c)) :=
  qOb_mk (cLR_append h.1 h.2.1.1) (gAppend_x h.2 c)
theorem oClearText (h : qOb m r w) : qW m_LR_clearText 0 [qK 0, none] [] (qT0, m, r) (qPm m (qI ((w.2.2.length : Int))) (gClear w)) :=
  qOb_mk (cLR_clearText h.1 h.2.1.1) (gClear_x h.2)
theorem oDiscard (h : qOb m r w) {i : Int} : qW m_LR_discard 0 [qK 0, qI i] [] (qT0, m, r) (qPm m (qI (fDiscard w i)) (gDiscard w i)) :=
  qOb_mk (cLR_discard h.1 h.2.1.1) (gDiscard_x h.2 i)
theorem oSetBound (h : qOb m r w) {b : Int} : qW m_LR_setBound 0 [qK 0, qI b] [] (qT0, m, r) (qPm m (qI (fSetBound w b)) (gSetBound w b)) :=
  qOb_mk (cLR_setBound h.1 h.2.1.1) (gSetBound_x h.2 b)
theorem oUndo (h : qOb m r w) : qW m_LR_undo 0 [qK 0] [] (qT0, m, r) (qPm m (qI (fUndo w)) (gUndo w)) :=
  qOb_mk (cLR_undo h.1 h.2.1.1) (gUndo_x h.2)
theorem oChange (h : qOb m r w) {i p v : Int} : qW m_LR_change 0 [qK 0, qI i, qI p, qI v, none, none] [] (qT0, m, r) (qPm m (qI (fChange w i p v)) (gChange w i p v)) :=
  qOb_mk (cLR_change h.1 h.2.1.1) (gChange_x h.2 i p v)
theorem oDrop (h : qOb m r w) {i p : Int} : qW m_LR_drop 0 [qK 0, qI i, qI p, none, none] [] (qT0, m, r) (qPm m (qI (fDrop w i p)) (gDrop w i p)) :=
  qOb_mk (cLR_drop h.1 h.2.1.1) (gDrop_x h.2 i p)
theorem oRead (h : qOb m r w) : qW m_LR_read 0 [qK 0, none, none] [] (qT0, m, r) (qPm m (qI (fRead w)) (gRead w)) :=
  qOb_mk (cLR_read h.1 h.2.1.1 h.2.1.2.1) (gRead_x h.2)
theorem qOb_bd (h : qOb m r w) : w.1.1.length ≤ 60 ∧ w.1.2.1.length ≤ 40 ∧ w.1.2.2.2.length ≤ 30 ∧ (1 ≤ w.1.2.2.1 ∧ w.1.2.2.1 ≤ 10) ∧ w.2.1.length ≤ 5 ∧ w.2.2.length ≤ 80 := by
  obtain ⟨⟨h1, h2, h3, h4, h5⟩, -⟩ := h.2.1
  exact ⟨h1.1.1, h1.2.1, h1.2.2.2.2.1, h1.2.2.2.1, h3, h4⟩
/-- up -/
def fUp (x y : Int) : Int := qop2 0 x 2147483647 % y
theorem qop2_and {x y : Int} (h : 0 ≤ y) (h2 : y ≤ 2147483647) : 0 ≤ qop2 0 x y ∧ qop2 0 x y ≤ y := by
  have e : qop2 0 x y = (Int32.ofInt x &&& Int32.ofInt y).toInt := by simp [qop2]
  have hy : (Int32.ofInt y).toInt = y := qti ⟨by omega, by omega⟩
  have hyb : (Int32.ofInt y).toBitVec.toInt = y := hy
  have h3 : (Int32.ofInt y).toBitVec.msb = false := by
    rw [BitVec.msb_eq_toInt, hyb]
    exact decide_eq_false (by omega)
  have h4 : (Int32.ofInt x &&& Int32.ofInt y).toBitVec = (Int32.ofInt x).toBitVec &&& (Int32.ofInt y).toBitVec := rfl
  have h5 : ((Int32.ofInt x).toBitVec &&& (Int32.ofInt y).toBitVec).msb = false := by
    rw [BitVec.msb_and, h3, Bool.and_false]
  have h6 : (Int32.ofInt x &&& Int32.ofInt y).toInt = (((Int32.ofInt x).toBitVec &&& (Int32.ofInt y).toBitVec).toNat : Int) := by
    show ((Int32.ofInt x).toBitVec &&& (Int32.ofInt y).toBitVec).toInt = _
    exact BitVec.toInt_eq_toNat_of_msb h5
  have h7 : (Int32.ofInt y).toBitVec.toInt = ((Int32.ofInt y).toBitVec.toNat : Int) := BitVec.toInt_eq_toNat_of_msb h3
  have h8 : ((Int32.ofInt x).toBitVec &&& (Int32.ofInt y).toBitVec).toNat ≤ (Int32.ofInt y).toBitVec.toNat := by
    rw [BitVec.toNat_and]
    exact Nat.and_le_right
  rw [e, h6]
  omega
theorem fUp_rng {x y : Int} (h : 0 < y) : 0 ≤ fUp x y ∧ fUp x y < y := ⟨Int.emod_nonneg _ (by omega), Int.emod_lt_of_pos _ h⟩
theorem pUp {x y : Int} (h : 0 < y) {T : List (Nat × Nat)} : qP m_Lw_up [qI x, qI y] (T, m, r) (qI (fUp x y)) := by
  have h1 := (qop2_and (x := x) (y := 2147483647) (by decide) (by decide)).1
  refine qr_il rfl rfl (w := ?_)
  refine qr_const rfl (w := ?_)
  refine qr_op2 rfl (w := ?_)
  refine qr_il rfl rfl (w := ?_)
  refine qr_rem rfl (by omega) (w := ?_)
  refine qW_ireturn rfl ?_
  exact ⟨rfl, rfl⟩
/-- mark: all that is told, folded -/
def qFo (f : Nat → Int64 → Int64) : Nat → Nat → Int64 → Int64
  | 0, _, h => h
  | k + 1, i, h => qFo f k (i + 1) (f i h)
def mh (h : Int64) (x : Int) : Int64 := Int64.ofInt 31 * h + (Int32.ofInt x).toInt64
def fW0 (a : qAS) : qWd := (a, [], [])
def fMkA (a : qAS) (h : Int64) : Int64 := qFo (fun k h => mh h (fCount (fW0 a) k)) 8 0 h
def fMkR (a : qAS) (i : Nat) (h : Int64) : Int64 := qFo (fun p h => mh h (fValue (fW0 a) i p)) a.1.length 0 (qFo (fun k h => mh h (fRecord (fW0 a) i k)) 5 0 h)
def fMkB (a : qAS) (h : Int64) : Int64 := qFo (fMkR a) a.2.2.2.length 0 h
def fMkC (a : qAS) (h : Int64) : Int64 := qFo (fun p h => mh (mh h (fPath (fW0 a) p 0)) (fPath (fW0 a) p 1)) a.1.length 0 h
def fMkS (a : qAS) (s : Nat) (h : Int64) : Int64 := qFo (fun k h => mh h (fField (fW0 a) s k)) ((qGf a.2.1 s).length + 1) 0 h
def fMkD (a : qAS) (h : Int64) : Int64 := qFo (fMkS a) a.2.1.length 0 h
def fMark (a : qAS) : Int64 := fMkD a (fMkC a (fMkB a (fMkA a (Int64.ofInt 17))))
theorem fCount_w (k : Nat) (hk : k < 8) : fCount w k = fCount (fW0 w.1) k := by
  unfold fCount fW0
  dsimp only
  rw [if_neg (show ¬ (k : Int) = 8 by omega), if_neg (show ¬ (k : Int) = 9 by omega), if_neg (show ¬ (k : Int) = 8 by omega), if_neg (show ¬ (k : Int) = 9 by omega)]
theorem mk_A {Q : qA → qM → Prop} {x4 : qA} : ∀ (k i : Nat) (h : Int64) (m : Nat → Int → Int) (r : Nat → Int → Option Nat), qOb m r w → i + k = 8 → (∀ (m : Nat → Int → Int) (r : Nat → Int → Option Nat), qOb m r w → qW m_Lw_mark 31 [qK 0, qJ (qFo (fun k h => mh h (fCount (fW0 w.1) k)) k i h), none, qI ((8 : Nat) : Int), x4] [] (qT0, m, r) Q) → qW m_Lw_mark 6 [qK 0, qJ h, none, qI i, x4] [] (qT0, m, r) Q := by
  intro k
  induction k with
  | zero =>
    intro i h m r hO hik kk
    obtain ⟨b1, b2, b3, b4, b5, b6⟩ := qOb_bd hO
    have hi0 : i = 8 := by omega
    subst hi0
    refine qr_il rfl rfl (w := ?_)
    refine qr_const rfl (w := ?_)
    refine qr_icge rfl (fun hc => ?_) (fun hc => absurd hc (by omega))
    exact kk m r hO
  | succ k ih =>
    intro i h m r hO hik kk
    obtain ⟨b1, b2, b3, b4, b5, b6⟩ := qOb_bd hO
    refine qr_il rfl rfl (w := ?_)
    refine qr_const rfl (w := ?_)
    refine qr_icge rfl (fun hc => absurd hc (by omega)) (fun hc => ?_)
    refine qr_ldc2 rfl (w := ?_)
    refine qr_ll rfl rfl (w := ?_)
    refine qr_lmul rfl (w := ?_)
    refine qr_al rfl rfl (w := ?_)
    refine qr_il rfl rfl (w := ?_)
    refine qr_callX rfl (oCount hO) (qrcv1 kd_0) (w := ?_)
    rw [fCount_w i (by omega)]
    intro m r ⟨hO, hm⟩
    refine qr_i2l rfl (w := ?_)
    refine qr_ladd rfl (w := ?_)
    refine qr_ls1 rfl (w := ?_)
    refine qr_inc3 rfl (by omega) (w := ?_)
    refine qr_goto rfl (w := ?_)
    exact ih (i + 1) _ m r hO (by omega) kk
theorem mk_B1 {Q : qA → qM → Prop} {j : Nat} : ∀ (k i : Nat) (h : Int64) (m : Nat → Int → Int) (r : Nat → Int → Option Nat), qOb m r w → i + k = 5 → (∀ (m : Nat → Int → Int) (r : Nat → Int → Option Nat), qOb m r w → qW m_Lw_mark 72 [qK 0, qJ (qFo (fun k h => mh h (fRecord (fW0 w.1) j k)) k i h), none, qI j, qI ((5 : Nat) : Int)] [] (qT0, m, r) Q) → qW m_Lw_mark 45 [qK 0, qJ h, none, qI j, qI i] [] (qT0, m, r) Q := by
  intro k
  induction k with
  | zero =>
    intro i h m r hO hik kk
    obtain ⟨b1, b2, b3, b4, b5, b6⟩ := qOb_bd hO
    have hi0 : i = 5 := by omega
    subst hi0
    refine qr_il rfl rfl (w := ?_)
    refine qr_const rfl (w := ?_)
    refine qr_icge rfl (fun hc => ?_) (fun hc => absurd hc (by omega))
    exact kk m r hO
  | succ k ih =>
    intro i h m r hO hik kk
    obtain ⟨b1, b2, b3, b4, b5, b6⟩ := qOb_bd hO
    refine qr_il rfl rfl (w := ?_)
    refine qr_const rfl (w := ?_)
    refine qr_icge rfl (fun hc => absurd hc (by omega)) (fun hc => ?_)
    refine qr_ldc2 rfl (w := ?_)
    refine qr_ll rfl rfl (w := ?_)
    refine qr_lmul rfl (w := ?_)
    refine qr_al rfl rfl (w := ?_)
    refine qr_il rfl rfl (w := ?_)
    refine qr_il rfl rfl (w := ?_)
    refine qr_callX rfl (oRecord hO) (qrcv1 kd_0) (w := ?_)
    intro m r ⟨hO, hm⟩
    refine qr_i2l rfl (w := ?_)
    refine qr_ladd rfl (w := ?_)
    refine qr_ls1 rfl (w := ?_)
    refine qr_inc4 rfl (by omega) (w := ?_)
    refine qr_goto rfl (w := ?_)
    exact ih (i + 1) _ m r hO (by omega) kk
theorem mk_B2 {Q : qA → qM → Prop} {j : Nat} : ∀ (k i : Nat) (h : Int64) (m : Nat → Int → Int) (r : Nat → Int → Option Nat), qOb m r w → i + k = w.1.1.length → (∀ (m : Nat → Int → Int) (r : Nat → Int → Option Nat), qOb m r w → qW m_Lw_mark 106 [qK 0, qJ (qFo (fun p h => mh h (fValue (fW0 w.1) j p)) k i h), none, qI j, qI ((w.1.1.length : Nat) : Int)] [] (qT0, m, r) Q) → qW m_Lw_mark 75 [qK 0, qJ h, none, qI j, qI i] [] (qT0, m, r) Q := by
  have c1 : fCount w 1 = (w.1.2.2.2.length : Int) := rfl
  have c2 : fCount w 2 = (w.1.1.length : Int) := rfl
  have c3 : fCount w 3 = (w.1.2.1.length : Int) := rfl
  intro k
  induction k with
  | zero =>
    intro i h m r hO hik kk
    obtain ⟨b1, b2, b3, b4, b5, b6⟩ := qOb_bd hO
    have hi0 : i = w.1.1.length := by omega
    subst hi0
    refine qr_il rfl rfl (w := ?_)
    refine qr_al rfl rfl (w := ?_)
    refine qr_const rfl (w := ?_)
    refine qr_callX rfl (oCount hO) (qrcv1 kd_0) (w := ?_)
    intro m r ⟨hO, hm⟩
    refine qr_icge rfl (fun hc => ?_) (fun hc => absurd hc (by omega))
    exact kk m r hO
  | succ k ih =>
    intro i h m r hO hik kk
    obtain ⟨b1, b2, b3, b4, b5, b6⟩ := qOb_bd hO
    refine qr_il rfl rfl (w := ?_)
    refine qr_al rfl rfl (w := ?_)
    refine qr_const rfl (w := ?_)
    refine qr_callX rfl (oCount hO) (qrcv1 kd_0) (w := ?_)
    intro m r ⟨hO, hm⟩
    refine qr_icge rfl (fun hc => absurd hc (by omega)) (fun hc => ?_)
    refine qr_ldc2 rfl (w := ?_)
    refine qr_ll rfl rfl (w := ?_)
    refine qr_lmul rfl (w := ?_)
    refine qr_al rfl rfl (w := ?_)
    refine qr_il rfl rfl (w := ?_)
    refine qr_il rfl rfl (w := ?_)
    refine qr_callX rfl (oValue hO) (qrcv1 kd_0) (w := ?_)
    intro m r ⟨hO, hm⟩
    refine qr_i2l rfl (w := ?_)
    refine qr_ladd rfl (w := ?_)
    refine qr_ls1 rfl (w := ?_)
    refine qr_inc4 rfl (by omega) (w := ?_)
    refine qr_goto rfl (w := ?_)
    exact ih (i + 1) _ m r hO (by omega) kk
theorem mk_B {Q : qA → qM → Prop} : ∀ (k i : Nat) (h : Int64) (m : Nat → Int → Int) (r : Nat → Int → Option Nat) (x4 : qA), qOb m r w → i + k = w.1.2.2.2.length → (∀ (m : Nat → Int → Int) (r : Nat → Int → Option Nat) (x4 : qA), qOb m r w → qW m_Lw_mark 112 [qK 0, qJ (qFo (fMkR w.1) k i h), none, qI ((w.1.2.2.2.length : Nat) : Int), x4] [] (qT0, m, r) Q) → qW m_Lw_mark 33 [qK 0, qJ h, none, qI i, x4] [] (qT0, m, r) Q := by
  have c1 : fCount w 1 = (w.1.2.2.2.length : Int) := rfl
  have c2 : fCount w 2 = (w.1.1.length : Int) := rfl
  have c3 : fCount w 3 = (w.1.2.1.length : Int) := rfl
  intro k
  induction k with
  | zero =>
    intro i h m r x4 hO hik kk
    obtain ⟨b1, b2, b3, b4, b5, b6⟩ := qOb_bd hO
    have hi0 : i = w.1.2.2.2.length := by omega
    subst hi0
    refine qr_il rfl rfl (w := ?_)
    refine qr_al rfl rfl (w := ?_)
    refine qr_const rfl (w := ?_)
    refine qr_callX rfl (oCount hO) (qrcv1 kd_0) (w := ?_)
    intro m r ⟨hO, hm⟩
    refine qr_icge rfl (fun hc => ?_) (fun hc => absurd hc (by omega))
    exact kk m r x4 hO
  | succ k ih =>
    intro i h m r x4 hO hik kk
    obtain ⟨b1, b2, b3, b4, b5, b6⟩ := qOb_bd hO
    refine qr_il rfl rfl (w := ?_)
    refine qr_al rfl rfl (w := ?_)
    refine qr_const rfl (w := ?_)
    refine qr_callX rfl (oCount hO) (qrcv1 kd_0) (w := ?_)
    intro m r ⟨hO, hm⟩
    refine qr_icge rfl (fun hc => absurd hc (by omega)) (fun hc => ?_)
    refine qr_const rfl (w := ?_)
    refine qr_is4 rfl (w := ?_)
    refine mk_B1 5 0 h m r hO rfl (fun m r hO => ?_)
    refine qr_const rfl (w := ?_)
    refine qr_is4 rfl (w := ?_)
    refine mk_B2 w.1.1.length 0 _ m r hO (by omega) (fun m r hO => ?_)
    refine qr_inc3 rfl (by omega) (w := ?_)
    refine qr_goto rfl (w := ?_)
    exact ih (i + 1) _ m r _ hO (by omega) kk
theorem mk_C {Q : qA → qM → Prop} {x4 : qA} : ∀ (k i : Nat) (h : Int64) (m : Nat → Int → Int) (r : Nat → Int → Option Nat), qOb m r w → i + k = w.1.1.length → (∀ (m : Nat → Int → Int) (r : Nat → Int → Option Nat), qOb m r w → qW m_Lw_mark 155 [qK 0, qJ (qFo (fun p h => mh (mh h (fPath (fW0 w.1) p 0)) (fPath (fW0 w.1) p 1)) k i h), none, qI ((w.1.1.length : Nat) : Int), x4] [] (qT0, m, r) Q) → qW m_Lw_mark 114 [qK 0, qJ h, none, qI i, x4] [] (qT0, m, r) Q := by
  have c1 : fCount w 1 = (w.1.2.2.2.length : Int) := rfl
  have c2 : fCount w 2 = (w.1.1.length : Int) := rfl
  have c3 : fCount w 3 = (w.1.2.1.length : Int) := rfl
  intro k
  induction k with
  | zero =>
    intro i h m r hO hik kk
    obtain ⟨b1, b2, b3, b4, b5, b6⟩ := qOb_bd hO
    have hi0 : i = w.1.1.length := by omega
    subst hi0
    refine qr_il rfl rfl (w := ?_)
    refine qr_al rfl rfl (w := ?_)
    refine qr_const rfl (w := ?_)
    refine qr_callX rfl (oCount hO) (qrcv1 kd_0) (w := ?_)
    intro m r ⟨hO, hm⟩
    refine qr_icge rfl (fun hc => ?_) (fun hc => absurd hc (by omega))
    exact kk m r hO
  | succ k ih =>
    intro i h m r hO hik kk
    obtain ⟨b1, b2, b3, b4, b5, b6⟩ := qOb_bd hO
    refine qr_il rfl rfl (w := ?_)
    refine qr_al rfl rfl (w := ?_)
    refine qr_const rfl (w := ?_)
    refine qr_callX rfl (oCount hO) (qrcv1 kd_0) (w := ?_)
    intro m r ⟨hO, hm⟩
    refine qr_icge rfl (fun hc => absurd hc (by omega)) (fun hc => ?_)
    refine qr_ldc2 rfl (w := ?_)
    refine qr_ldc2 rfl (w := ?_)
    refine qr_ll rfl rfl (w := ?_)
    refine qr_lmul rfl (w := ?_)
    refine qr_al rfl rfl (w := ?_)
    refine qr_il rfl rfl (w := ?_)
    refine qr_const rfl (w := ?_)
    refine qr_callX rfl (oPath hO) (qrcv1 kd_0) (w := ?_)
    intro m r ⟨hO, hm⟩
    refine qr_i2l rfl (w := ?_)
    refine qr_ladd rfl (w := ?_)
    refine qr_lmul rfl (w := ?_)
    refine qr_al rfl rfl (w := ?_)
    refine qr_il rfl rfl (w := ?_)
    refine qr_const rfl (w := ?_)
    refine qr_callX rfl (oPath hO) (qrcv1 kd_0) (w := ?_)
    intro m r ⟨hO, hm⟩
    refine qr_i2l rfl (w := ?_)
    refine qr_ladd rfl (w := ?_)
    refine qr_ls1 rfl (w := ?_)
    refine qr_inc3 rfl (by omega) (w := ?_)
    refine qr_goto rfl (w := ?_)
    exact ih (i + 1) _ m r hO (by omega) kk
theorem qLv_rng (fs : List Int) : 0 ≤ qLv fs ∧ qLv fs ≤ fs.length := by
  induction fs with
  | nil => simp [qLv]
  | cons f t ih =>
    simp only [qLv, List.length_cons]
    split <;> omega
theorem fShape_2 {s : Int} (h : 0 ≤ s ∧ s < w.1.2.1.length) : fShape w s 2 = qLv (qGf w.1.2.1 s) := by
  unfold fShape
  rw [if_neg (fun e => e h)]
  rfl
theorem fShape_3 {s : Int} (h : 0 ≤ s ∧ s < w.1.2.1.length) : fShape w s 3 = (qGf w.1.2.1 s).length - qLv (qGf w.1.2.1 s) := by
  unfold fShape
  rw [if_neg (fun e => e h)]
  rfl
theorem mk_D1 {Q : qA → qM → Prop} {j : Nat} (hj : j < w.1.2.1.length) (d5 : (qGf w.1.2.1 j).length ≤ 20) : ∀ (k i : Nat) (h : Int64) (m : Nat → Int → Int) (r : Nat → Int → Option Nat), qOb m r w → i + k = ((qGf w.1.2.1 j).length + 1) → (∀ (m : Nat → Int → Int) (r : Nat → Int → Option Nat), qOb m r w → qW m_Lw_mark 208 [qK 0, qJ (qFo (fun k h => mh h (fField (fW0 w.1) j k)) k i h), none, qI j, qI ((((qGf w.1.2.1 j).length + 1) : Nat) : Int)] [] (qT0, m, r) Q) → qW m_Lw_mark 169 [qK 0, qJ h, none, qI j, qI i] [] (qT0, m, r) Q := by
  have c1 : fCount w 1 = (w.1.2.2.2.length : Int) := rfl
  have c2 : fCount w 2 = (w.1.1.length : Int) := rfl
  have c3 : fCount w 3 = (w.1.2.1.length : Int) := rfl
  have d2 := fShape_2 (w := w) (s := j) (by omega)
  have d3 := fShape_3 (w := w) (s := j) (by omega)
  have d4 := qLv_rng (qGf w.1.2.1 j)
  intro k
  induction k with
  | zero =>
    intro i h m r hO hik kk
    obtain ⟨b1, b2, b3, b4, b5, b6⟩ := qOb_bd hO
    have hi0 : i = ((qGf w.1.2.1 j).length + 1) := by omega
    subst hi0
    refine qr_il rfl rfl (w := ?_)
    refine qr_al rfl rfl (w := ?_)
    refine qr_il rfl rfl (w := ?_)
    refine qr_const rfl (w := ?_)
    refine qr_callX rfl (oShape hO) (qrcv1 kd_0) (w := ?_)
    intro m r ⟨hO, hm⟩
    refine qr_al rfl rfl (w := ?_)
    refine qr_il rfl rfl (w := ?_)
    refine qr_const rfl (w := ?_)
    refine qr_callX rfl (oShape hO) (qrcv1 kd_0) (w := ?_)
    intro m r ⟨hO, hm⟩
    refine qr_add rfl (by omega) (w := ?_)
    refine qr_icgt rfl (fun hc => ?_) (fun hc => absurd hc (by omega))
    exact kk m r hO
  | succ k ih =>
    intro i h m r hO hik kk
    obtain ⟨b1, b2, b3, b4, b5, b6⟩ := qOb_bd hO
    refine qr_il rfl rfl (w := ?_)
    refine qr_al rfl rfl (w := ?_)
    refine qr_il rfl rfl (w := ?_)
    refine qr_const rfl (w := ?_)
    refine qr_callX rfl (oShape hO) (qrcv1 kd_0) (w := ?_)
    intro m r ⟨hO, hm⟩
    refine qr_al rfl rfl (w := ?_)
    refine qr_il rfl rfl (w := ?_)
    refine qr_const rfl (w := ?_)
    refine qr_callX rfl (oShape hO) (qrcv1 kd_0) (w := ?_)
    intro m r ⟨hO, hm⟩
    refine qr_add rfl (by omega) (w := ?_)
    refine qr_icgt rfl (fun hc => absurd hc (by omega)) (fun hc => ?_)
    refine qr_ldc2 rfl (w := ?_)
    refine qr_ll rfl rfl (w := ?_)
    refine qr_lmul rfl (w := ?_)
    refine qr_al rfl rfl (w := ?_)
    refine qr_il rfl rfl (w := ?_)
    refine qr_il rfl rfl (w := ?_)
    refine qr_callX rfl (oField hO) (qrcv1 kd_0) (w := ?_)
    intro m r ⟨hO, hm⟩
    refine qr_i2l rfl (w := ?_)
    refine qr_ladd rfl (w := ?_)
    refine qr_ls1 rfl (w := ?_)
    refine qr_inc4 rfl (by omega) (w := ?_)
    refine qr_goto rfl (w := ?_)
    exact ih (i + 1) _ m r hO (by omega) kk
theorem mk_D {Q : qA → qM → Prop} : ∀ (k i : Nat) (h : Int64) (m : Nat → Int → Int) (r : Nat → Int → Option Nat) (x4 : qA), qOb m r w → i + k = w.1.2.1.length → (∀ (m : Nat → Int → Int) (r : Nat → Int → Option Nat) (x4 : qA), qOb m r w → qW m_Lw_mark 214 [qK 0, qJ (qFo (fMkS w.1) k i h), none, qI ((w.1.2.1.length : Nat) : Int), x4] [] (qT0, m, r) Q) → qW m_Lw_mark 157 [qK 0, qJ h, none, qI i, x4] [] (qT0, m, r) Q := by
  have c1 : fCount w 1 = (w.1.2.2.2.length : Int) := rfl
  have c2 : fCount w 2 = (w.1.1.length : Int) := rfl
  have c3 : fCount w 3 = (w.1.2.1.length : Int) := rfl
  intro k
  induction k with
  | zero =>
    intro i h m r x4 hO hik kk
    obtain ⟨b1, b2, b3, b4, b5, b6⟩ := qOb_bd hO
    have hi0 : i = w.1.2.1.length := by omega
    subst hi0
    refine qr_il rfl rfl (w := ?_)
    refine qr_al rfl rfl (w := ?_)
    refine qr_const rfl (w := ?_)
    refine qr_callX rfl (oCount hO) (qrcv1 kd_0) (w := ?_)
    intro m r ⟨hO, hm⟩
    refine qr_icge rfl (fun hc => ?_) (fun hc => absurd hc (by omega))
    exact kk m r x4 hO
  | succ k ih =>
    intro i h m r x4 hO hik kk
    obtain ⟨b1, b2, b3, b4, b5, b6⟩ := qOb_bd hO
    refine qr_il rfl rfl (w := ?_)
    refine qr_al rfl rfl (w := ?_)
    refine qr_const rfl (w := ?_)
    refine qr_callX rfl (oCount hO) (qrcv1 kd_0) (w := ?_)
    intro m r ⟨hO, hm⟩
    refine qr_icge rfl (fun hc => absurd hc (by omega)) (fun hc => ?_)
    refine qr_const rfl (w := ?_)
    refine qr_is4 rfl (w := ?_)
    refine mk_D1 (j := i) (by omega) (qWs_gf hO.2.1.1.1 (i : Int)).1 _ 0 h m r hO (Nat.zero_add _) (fun m r hO => ?_)
    refine qr_inc3 rfl (by omega) (w := ?_)
    refine qr_goto rfl (w := ?_)
    exact ih (i + 1) _ m r _ hO (by omega) kk
theorem pMark (hO : qOb m r w) : qW m_Lw_mark 0 [qK 0, none, none, none, none] [] (qT0, m, r) (qPo (qJ (fMark w.1)) w) := by
  refine qr_ldc2 rfl (w := ?_)
  refine qr_ls1 rfl (w := ?_)
  refine qr_const rfl (w := ?_)
  refine qr_is3 rfl (w := ?_)
  refine mk_A 8 0 _ m r hO rfl (fun m r hO => ?_)
  refine qr_const rfl (w := ?_)
  refine qr_is3 rfl (w := ?_)
  refine mk_B w.1.2.2.2.length 0 _ m r _ hO (Nat.zero_add _) (fun m r x4 hO => ?_)
  refine qr_const rfl (w := ?_)
  refine qr_is3 rfl (w := ?_)
  refine mk_C w.1.1.length 0 _ m r hO (Nat.zero_add _) (fun m r hO => ?_)
  refine qr_const rfl (w := ?_)
  refine qr_is3 rfl (w := ?_)
  refine mk_D w.1.2.1.length 0 _ m r _ hO (Nat.zero_add _) (fun m r x4 hO => ?_)
  refine qr_ll rfl rfl (w := ?_)
  refine qW_lreturn rfl ?_
  exact ⟨m, r, rfl, rfl, hO⟩
