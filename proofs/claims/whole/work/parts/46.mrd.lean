/-! The reference's read: its paths, its values, a record more -/
variable {m : Nat → Int → Int} {r : Nat → Int → Option Nat}
theorem qLa_of {n0 : Nat} {P : List (Int × Int)} {fs ns : List Int} {lv op nm : Int} (h : qPm m n0 (P, fs, ns, 7, lv, op, nm)) : qLa m P fs ∧ qOk n0 (fs.map qPa) ∧ qNn n0 (fs.map qPa) = P.length ∧ qVl (m 185) fs.length = ns := by
  obtain ⟨⟨h1, -, -⟩, h4, h5, -, h7, h8, h9, -⟩ := h
  rw [qFp_no (by decide)] at h1 h4 h8 h9
  dsimp only at h1 h4 h5 h7 h8 h9
  have hm : (fs.map qPa).length = fs.length := List.length_map _
  have hat : ∀ k : Nat, k < fs.length → qAt (fs.map qPa) k = qPa (qAt fs k) := fun k hk => by
    rw [qAt_lt (by rw [hm]; exact hk), List.getElem_map, qAt_lt hk]
  refine ⟨⟨by rw [h1, hm], fun k hk => ?_⟩, h8, h9, h7⟩
  have h4k := h4 k (by rw [hm]; exact hk)
  rw [hat k hk] at h4k
  refine ⟨h4k.1, h4k.2.imp id (fun g => ⟨g.1, g.2.1, ?_⟩), h5 k hk⟩
  obtain ⟨j, hj⟩ : ∃ j : Nat, m 184 k = j := ⟨(m 184 k).toNat, by omega⟩
  rw [hj] at g ⊢
  rw [hat j (by omega)] at g
  exact g.2.2
theorem mLaysPaths (h : qE r) {a : qAS} {P : List (Int × Int)} {fs : List Int} (hB : qMb (m 177) a) (hl : qMl a) (hpre : a.1 <+: P) (hPn : P.Nodup) (hf20 : fs.length ≤ 20) (hfs : ∀ k : Nat, k < fs.length → 0 ≤ qPa (qAt fs k) ∧ qPa (qAt fs k) < P.length ∧ qPa (qAt fs k) < 100 ∧ (qAt fs k = qPa (qAt fs k) ∨ qAt fs k = 100 + qPa (qAt fs k))) (hok : qOk a.1.length (fs.map qPa)) (hnn : qNn a.1.length (fs.map qPa) = P.length) (hA : qLa m P fs) : qW m_Mo_laysPaths 0 [qK 176, none, none, none] [] (qT0, m, r) (fun x σ => ∃ m', σ = (qT0, m', r) ∧ qG (fun z j => z = 177 ∨ z = 187 ∨ (z = 176 ∧ j = 18)) m m' ∧ ((x = qI 1 ∧ P.length ≤ 60 ∧ qMb (m' 177) (qPp a P) ∧ qRo m' fs) ∨ (x = qI 0 ∧ 60 < P.length))) := by
  have e12 := hA.1
  have et : P.take a.1.length = a.1 := (List.prefix_iff_eq_take.mp hpre).symm
  refine qr_al rfl rfl (w := ?_)
  refine qr_al rfl rfl (w := ?_)
  refine qr_gi rfl kd_176 (w := ?_)
  rw [e12]
  refine qr_pi rfl kd_176 (w := ?_)
  refine qr_const rfl (w := ?_)
  refine qr_is1 rfl (w := ?_)
  have c76 : ∀ j : Int, j ≠ 18 → (qup m 176 18 fs.length) 176 j = m 176 j := fun j hj => qup_i hj
  have c : ∀ z : Nat, z ≠ 176 → (qup m 176 18 fs.length) z = m z := fun z hz => funext (fun j => qup_z hz)
  have hA2 : qLa (qup m 176 18 fs.length) P fs := by
    unfold qLa
    rw [c 183 (by decide), c 184 (by decide), c 185 (by decide), c76 12 (by decide)]
    exact hA
  have hl0 : qMl (qPp a []) := ⟨Nat.zero_le _, hl.2.1, hl.2.2.1, hl.2.2.2.1, hl.2.2.2.2⟩
  refine qW_mono (mLays_loop h hl0 hPn hf20 hfs hok hnn fs.length 0 none none _ (by omega) hA2 (by rw [c 177 (by decide)]; show qMb (m 177) (qPp a (P.take a.1.length)); rw [et]; exact hB) (by show a.1.length ≤ 60; exact hl.1) qup_s (fun j hj => by omega)) (fun x σ hσ => ?_)
  obtain ⟨m2, rfl, q1, q2⟩ := hσ
  exact ⟨m2, rfl, qG_tr (qG_up (Or.inr (Or.inr ⟨rfl, rfl⟩))) (qG_mo q1 (fun z j e => e.elim Or.inl (fun e => Or.inr (Or.inl e)))), q2⟩
theorem qVl_mo (g : Int → Int) : ∀ (d n : Nat), (qVl g n).length ≤ (qVl g (n + d)).length := by
  intro d
  induction d with
  | zero => intro n; exact Nat.le_refl _
  | succ d ih =>
    intro n
    refine Nat.le_trans (ih n) ?_
    show (qVl g (n + d)).length ≤ (qVl g (n + d) ++ _).length
    rw [List.length_append]
    omega
theorem mValues_loop (h : qE r) {f R : Nat} {L : List Int} (hR : R < 30) (hL : L.length ≤ 10) {y1 y2 : qA} {Q : qA → qM → Prop} : ∀ (n k : Nat) (m : Nat → Int → Int), k + n = f → f ≤ 40 → m 176 12 = f → qVl (m 185) f = L → (∀ j : Nat, j < (qVl (m 185) k).length → m 177 (964 + 11 * (R : Int) + 1 + j) = L.getD j 0) → (qVl (m 185) k) <+: L →
    (∀ m' : Nat → Int → Int, (∀ j : Nat, j < L.length → m' 177 (964 + 11 * (R : Int) + 1 + j) = L.getD j 0) → qG (fun z i => z = 177 ∧ 964 + 11 * (R : Int) + 1 ≤ i ∧ i < 964 + 11 * (R : Int) + 11) m m' → qW m_Mo_read 170 [qK 176, y1, y2, qI R, qI L.length, qI f] [] (qT0, m', r) Q) →
    qW m_Mo_read 115 [qK 176, y1, y2, qI R, qI (qVl (m 185) k).length, qI k] [] (qT0, m, r) Q := by
  intro n
  induction n with
  | zero =>
    intro k m hk hf40 hf hv hj hp K
    have e : k = f := by omega
    subst e
    rw [hv] at hj ⊢
    refine qr_il rfl rfl (w := ?_)
    refine qr_al rfl rfl (w := ?_)
    refine qr_gi rfl kd_176 (w := ?_)
    refine qr_icge rfl (fun hc => ?_) (fun hc => absurd hc (by omega))
    exact K m hj qG_rf
  | succ n ih =>
    intro k m hk hf40 hf hv hj hp K
    have hmo := qVl_mo (m 185) (f - (k + 1)) (k + 1)
    rw [show k + 1 + (f - (k + 1)) = f by omega, hv] at hmo
    have hq : qVl (m 185) (k + 1) = qVl (m 185) k ++ (if m 185 k = -9 then [] else [m 185 k]) := rfl
    have hpre : qVl (m 185) (k + 1) <+: L := by
      have hpp : ∀ (d n : Nat), qVl (m 185) n <+: qVl (m 185) (n + d) := by
        intro d
        induction d with
        | zero => intro n; exact List.prefix_refl _
        | succ d ihd => intro n; exact (ihd n).trans (List.prefix_append _ _)
      have h9 := hpp (f - (k + 1)) (k + 1)
      rw [show k + 1 + (f - (k + 1)) = f by omega, hv] at h9
      exact h9
    refine qr_il rfl rfl (w := ?_)
    refine qr_al rfl rfl (w := ?_)
    refine qr_gi rfl kd_176 (w := ?_)
    refine qr_icge rfl (fun hc => absurd hc (by omega)) (fun hc => ?_)
    refine qr_al rfl rfl (w := ?_)
    refine qr_gr rfl kd_176 (hr := (rf_8_11 h)) (w := ?_)
    refine qr_il rfl rfl (w := ?_)
    refine qr_ia rfl kd_185 (by omega) (w := ?_)
    refine qr_const rfl (w := ?_)
    refine qr_iceq rfl (fun hcf => ?_) (fun hcf => ?_)
    · refine qr_inc5 rfl (by omega) (w := ?_)
      refine qr_goto rfl (w := ?_)
      have hne : m 185 k = -9 := by assumption
      rw [if_pos hne, List.append_nil] at hq
      have h2 := ih (k + 1) m (by omega) hf40 hf hv
      rw [hq] at h2
      exact h2 hj hp K
    · refine qr_al rfl rfl (w := ?_)
      have hne : ¬ m 185 k = -9 := by assumption
      rw [if_neg hne] at hq
      have hlq : (qVl (m 185) (k + 1)).length = (qVl (m 185) k).length + 1 := by rw [hq, List.length_append]; rfl
      refine qr_gr rfl kd_176 (hr := (rf_8_0 h)) (w := ?_)
      refine qr_const rfl (w := ?_)
      refine qr_const rfl (w := ?_)
      refine qr_il rfl rfl (w := ?_)
      refine qr_mul rfl (by omega) (w := ?_)
      refine qr_add rfl (by omega) (w := ?_)
      refine qr_const rfl (w := ?_)
      refine qr_add rfl (by omega) (w := ?_)
      refine qr_il rfl rfl (w := ?_)
      refine qr_add rfl (by omega) (w := ?_)
      refine qr_al rfl rfl (w := ?_)
      refine qr_gr rfl kd_176 (hr := (rf_8_11 h)) (w := ?_)
      refine qr_il rfl rfl (w := ?_)
      refine qr_ia rfl kd_185 (by omega) (w := ?_)
      refine qr_ias rfl kd_177 (by omega) (w := ?_)
      refine qr_inc4 rfl (by omega) (w := ?_)
      refine qr_inc5 rfl (by omega) (w := ?_)
      refine qr_goto rfl (w := ?_)
      have c : ∀ z : Nat, z ≠ 177 → (qup m 177 (964 + 11 * (R : Int) + 1 + (qVl (m 185) k).length) (m 185 k)) z = m z := fun z hz => funext (fun j => qup_z hz)
      have h2 := ih (k + 1) (qup m 177 (964 + 11 * (R : Int) + 1 + (qVl (m 185) k).length) (m 185 k)) (by omega) hf40 (by rw [c 176 (by decide)]; exact hf) (by rw [c 185 (by decide)]; exact hv)
      rw [c 185 (by decide), hlq] at h2
      refine h2 (fun j hj2 => ?_) hpre (fun m' g1 g2 => K m' g1 (qG_tr (qG_up ⟨rfl, by omega, by omega⟩) g2))
      by_cases e : j = (qVl (m 185) k).length
      · subst e
        rw [qup_s]
        obtain ⟨X, hX⟩ := hpre
        rw [← hX, hq, List.append_assoc, List.getD_eq_getElem?_getD, List.getElem?_append_right (Nat.le_refl _), Nat.sub_self]
        rfl
      · rw [qup_i (by omega)]
        exact hj j (by omega)
/-- a state with a record more -/
def qRa (a : qAS) (x : Int) (V : List Int) : qAS := qRc a (a.2.2.2 ++ [(x, V)])
theorem qMb_add {g g' : Int → Int} {a : qAS} {x : Int} {V : List Int} (hB : qMb g a) (hl : qMl a) (hn : a.2.2.2.length < 30) (hV : V.length ≤ 10) (h0 : ∀ j : Int, 0 < j → j < 1294 → j < 964 + 11 * a.2.2.2.length ∨ 964 + 11 * a.2.2.2.length + 11 ≤ j → g' j = g j) (h00 : g' 0 = a.2.2.2.length + 1) (hx : g' (964 + 11 * a.2.2.2.length) = x) (hv : ∀ j : Nat, j < V.length → g' (964 + 11 * a.2.2.2.length + 1 + j) = V.getD j 0) : qMb g' (qRa a x V) := by
  obtain ⟨⟨b0, b1, b2, b3⟩, bp, bs, br⟩ := hB
  obtain ⟨l1, l2, l3, l4, l5⟩ := hl
  have e4 : (qRa a x V).2.2.2.length = a.2.2.2.length + 1 := by
    show (a.2.2.2 ++ [(x, V)]).length = _
    rw [List.length_append]
    rfl
  have hrl := qRs_len a
  have hrs : qRs (qRa a x V) = qRs a ++ [x] := by
    show (a.2.2.2 ++ [(x, V)]).map Prod.fst = _
    rw [List.map_append]
    rfl
  have hget : ∀ k : Int, 0 ≤ k → k < (a.2.2.2.length : Int) + 1 → qGet (qRa a x V) k = if k = a.2.2.2.length then (x, V) else qGet a k := fun k k0 k1 => by
    obtain ⟨k, rfl⟩ : ∃ y : Nat, k = y := ⟨k.toNat, by omega⟩
    unfold qGet
    show (a.2.2.2 ++ [(x, V)]).getD _ _ = _
    rw [Int.toNat_natCast, List.getD_eq_getElem?_getD]
    by_cases e : k = a.2.2.2.length
    · subst e
      rw [if_pos rfl, List.getElem?_append_right (Nat.le_refl _), Nat.sub_self]
      rfl
    · rw [if_neg (by omega), List.getElem?_append_left (by omega), List.getD_eq_getElem?_getD]
  refine ⟨⟨?_, ?_, ?_, ?_⟩, fun p g0 g1 => ?_, fun s g0 g1 => ⟨?_, fun k k0 k1 => ?_⟩, fun k g0 g1 => ⟨?_, fun j k0 k1 => ?_⟩⟩
  · rw [h00, e4]; rfl
  · rw [h0 _ (by omega) (by omega) (by omega)]; exact b1
  · rw [h0 _ (by omega) (by omega) (by omega)]; exact b2
  · rw [h0 _ (by omega) (by omega) (by omega)]; exact b3
  · have g1' : p < a.1.length := g1
    rw [h0 _ (by omega) (by omega) (by omega), h0 _ (by omega) (by omega) (by omega)]
    exact bp p g0 g1
  · have g1' : s < a.2.1.length := g1
    rw [h0 _ (by omega) (by omega) (by omega)]; exact (bs s g0 g1).1
  · have g1' : s < a.2.1.length := g1
    have k1' : k < (qGf a.2.1 s).length := k1
    have := l3 s
    rw [h0 _ (by omega) (by omega) (by omega)]; exact (bs s g0 g1).2 k k0 k1
  · rw [e4] at g1
    rw [hrs]
    by_cases e : k = a.2.2.2.length
    · rw [e, hx, ← hrl, qAt_lt (by rw [List.length_append]; simp), List.getElem_append_right (Nat.le_refl _)]
      simp
    · obtain ⟨k, rfl⟩ : ∃ y : Nat, k = y := ⟨k.toNat, by omega⟩
      rw [h0 _ (by omega) (by omega) (by omega), qAt_lt (by rw [List.length_append]; omega), List.getElem_append_left (by omega), ← qAt_lt]
      exact (br k g0 (by omega)).1
  · rw [e4] at g1
    rw [qVv_get]
    rw [hget k g0 (by omega)] at k1 ⊢
    by_cases e : k = a.2.2.2.length
    · rw [if_pos e] at k1 ⊢
      dsimp only at k1 ⊢
      obtain ⟨j, rfl⟩ : ∃ y : Nat, j = y := ⟨j.toNat, by omega⟩
      rw [e, Int.toNat_natCast]
      exact hv j (by omega)
    · rw [if_neg e] at k1 ⊢
      have := l5 k
      rw [h0 _ (by omega) (by omega) (by omega)]
      exact (br k g0 (by omega)).2 j k0 k1
