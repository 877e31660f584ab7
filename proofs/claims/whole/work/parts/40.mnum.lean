/-! The reference reads a number -/
variable {m : Nat → Int → Int} {r : Nat → Int → Option Nat}
theorem qTk_d2 {ps : List (Int × Int)} {fs ns : List Int} {lv op nm c : Int} (h : qDig c = true) : qTk (ps, fs, ns, 5, lv, op, nm) c = qDg2 (ps, fs, ns, 5, lv, op, nm) c := by
  have h2 := of_decide_eq_true h
  unfold qTk
  dsimp only
  rw [if_neg (by omega), if_neg (by decide), if_neg (by decide), if_neg (by decide), if_neg (by decide), if_neg (by decide), if_pos rfl, if_pos h]
theorem qTk_d1 {ps : List (Int × Int)} {fs ns : List Int} {lv op nm c : Int} (h : qDig c = true) : qTk (ps, fs, ns, 4, lv, op, nm) c = qDg1 (ps, fs, ns, 4, lv, op, nm) c := by
  have h2 := of_decide_eq_true h
  unfold qTk
  dsimp only
  rw [if_neg (by omega), if_neg (by decide), if_neg (by decide), if_neg (by decide), if_neg (by decide), if_pos rfl, if_pos h]
theorem qLst (l : List Int) (v : Int) : qAt (l ++ [v]) ((l ++ [v]).length - 1) = v := by
  have := qLa_app l [] v
  rw [List.append_nil] at this
  exact this
theorem qLset (l : List Int) (v x : Int) : (l ++ [v]).set ((l ++ [v]).length - 1) x = l ++ [x] := by
  rw [List.length_append, List.set_append_right (h := by simp)]
  simp
theorem qGo_y {c : Int} {t : List Int} {s s' : qRd} {a : Nat} (h : qTk s c = (true, s')) : qGo (c :: t) s a = qGo t s' (a + 1) := by
  simp only [qGo]
  rw [h]
  exact if_pos rfl
theorem qGo_n {c : Int} {t : List Int} {s s' : qRd} {a : Nat} (h : qTk s c = (false, s')) : qGo (c :: t) s a = (a, s') := by
  simp only [qGo]
  rw [h]
  exact if_neg (fun e => Bool.noConfusion e)
abbrev qPn (f : Int) : Nat → Int → Prop := fun a i => (a = 176 ∧ i = 15) ∨ (a = 185 ∧ i = f)
theorem mDigits_loop (h : qE r) {tx : List Int} (htx : tx.length ≤ 80) {f : Nat} (hf40 : f ≤ 39) {ps : List (Int × Int)} {fs ns0 : List Int} {lv op nm : Int} : ∀ (k j : Nat) (v n : Int) (m : Nat → Int → Int), j + k = tx.length → qMt m tx → m 176 12 = (f : Int) + 1 → m 176 15 = j → ((n = 1 ∧ 0 ≤ v ∧ v ≤ 9) ∨ (n = 2 ∧ 10 ≤ v ∧ v ≤ 99) ∨ (n = 3 ∧ 100 ≤ v ∧ v ≤ 999)) → qRJ j (ps, fs, ns0 ++ [v], 5, lv, op, nm) → qW m_Mo_readsNumber 4 [qK 176, qI v, qI n] [] (qT0, m, r) (fun x σ => ∃ m', σ = (qT0, m', r) ∧ qG (qPn f) m m' ∧ ((x = qI 1 ∧ ∃ (v' : Int) (j' : Nat), qGo (tx.drop j) (ps, fs, ns0 ++ [v], 5, lv, op, nm) j = qGo (tx.drop j') (ps, fs, ns0 ++ [v'], 5, lv, op, nm) j' ∧ j ≤ j' ∧ j' ≤ tx.length ∧ (j' < tx.length → qDig (tx.getD j' 0) = false) ∧ (0 ≤ v' ∧ v' ≤ 999) ∧ m' 176 15 = j' ∧ m' 185 f = v' ∧ qRJ j' (ps, fs, ns0 ++ [v'], 5, lv, op, nm)) ∨ (x = qI 0 ∧ (qGo (tx.drop j) (ps, fs, ns0 ++ [v], 5, lv, op, nm) j).1 < tx.length ∧ m' 176 15 = (qGo (tx.drop j) (ps, fs, ns0 ++ [v], 5, lv, op, nm) j).1))) := by
  intro k
  induction k with
  | zero =>
    intro j v n m hjk hT hf e15 hn hJ
    have e5 := hT.1
    refine qr_al rfl rfl (w := ?_)
    refine qr_gi rfl kd_176 (w := ?_)
    rw [e15]
    refine qr_al rfl rfl (w := ?_)
    refine qr_gi rfl kd_176 (w := ?_)
    refine qr_icge rfl (fun hc => ?_) (fun hc => absurd hc (by omega))
    refine qr_al rfl rfl (w := ?_)
    refine qr_gr rfl kd_176 (hr := (rf_8_11 h)) (w := ?_)
    refine qr_al rfl rfl (w := ?_)
    refine qr_gi rfl kd_176 (w := ?_)
    refine qr_const rfl (w := ?_)
    refine qr_sub rfl (by omega) (w := ?_)
    rw [hf, show (f : Int) + 1 - 1 = f by omega]
    refine qr_il rfl rfl (w := ?_)
    refine qr_ias rfl kd_185 (by omega) (w := ?_)
    refine qr_const rfl (w := ?_)
    refine qW_zreturn rfl (Or.inr rfl) ?_
    refine ⟨_, rfl, qG_up (Or.inr ⟨rfl, rfl⟩), Or.inl ⟨rfl, v, j, rfl, Nat.le_refl _, by omega, ?_, by omega, (qup_z (by decide)).trans e15, qup_s, hJ⟩⟩
    intro hj
    first
      | omega
      | omega
  | succ k ih =>
    intro j v n m hjk hT hf e15 hn hJ
    have e5 := hT.1
    have hj : j < tx.length := by omega
    obtain ⟨c, hcc⟩ : ∃ c, c = tx.getD j 0 := ⟨_, rfl⟩
    have hcj : tx[j] = c := by rw [hcc, List.getD_eq_getElem?_getD, List.getElem?_eq_getElem hj]; rfl
    have hdr : tx.drop j = c :: tx.drop (j + 1) := by rw [qdrop hj, hcj]
    have e180 : m 180 j = c := (hT.2 j hj).trans hcc.symm
    have hbad : qDig c = true → (v = 0 ∨ 99 < v) → qGo (tx.drop j) (ps, fs, ns0 ++ [v], 5, lv, op, nm) j = (j, (ps, fs, ns0 ++ [v], 5, lv, op, nm)) := fun hd hv => by
      rw [hdr]
      refine qGo_n ?_
      rw [qTk_d2 hd]
      dsimp only [qDg2]
      rw [qLst, if_pos (by omega)]
    have hgood : qDig c = true → ¬ (v = 0 ∨ 99 < v) → qTk (ps, fs, ns0 ++ [v], 5, lv, op, nm) c = (true, (ps, fs, ns0 ++ [v * 10 + c - 48], 5, lv, op, nm)) := fun hd hv => by
      rw [qTk_d2 hd]
      dsimp only [qDg2]
      rw [qLst, if_neg (by omega), qLset]
    refine qr_al rfl rfl (w := ?_)
    refine qr_gi rfl kd_176 (w := ?_)
    rw [e15]
    refine qr_al rfl rfl (w := ?_)
    refine qr_gi rfl kd_176 (w := ?_)
    refine qr_icge rfl (fun hc => absurd hc (by omega)) (fun hc => ?_)
    refine qr_al rfl rfl (w := ?_)
    refine qr_gr rfl kd_176 (hr := (rf_8_4 h)) (w := ?_)
    refine qr_al rfl rfl (w := ?_)
    refine qr_gi rfl kd_176 (w := ?_)
    rw [e15]
    refine qr_ia rfl kd_180 (by omega) (w := ?_)
    rw [e180]
    refine qr_const rfl (w := ?_)
    refine qr_const rfl (w := ?_)
    refine qr_callP rfl mIn rfl (w := ?_)
    refine qr_ifeqB rfl (fun hcf => ?_) (fun hcf => ?_)
    · refine qr_al rfl rfl (w := ?_)
      refine qr_gr rfl kd_176 (hr := (rf_8_11 h)) (w := ?_)
      refine qr_al rfl rfl (w := ?_)
      refine qr_gi rfl kd_176 (w := ?_)
      refine qr_const rfl (w := ?_)
      refine qr_sub rfl (by omega) (w := ?_)
      rw [hf, show (f : Int) + 1 - 1 = f by omega]
      refine qr_il rfl rfl (w := ?_)
      refine qr_ias rfl kd_185 (by omega) (w := ?_)
      refine qr_const rfl (w := ?_)
      refine qW_zreturn rfl (Or.inr rfl) ?_
      refine ⟨_, rfl, qG_up (Or.inr ⟨rfl, rfl⟩), Or.inl ⟨rfl, v, j, rfl, Nat.le_refl _, by omega, ?_, by omega, (qup_z (by decide)).trans e15, qup_s, hJ⟩⟩
      intro hj
      rw [← hcc]
      exact hcf
    · have hd48 := of_decide_eq_true hcf
      refine qr_il rfl rfl (w := ?_)
      refine qr_const rfl (w := ?_)
      refine qr_iceq rfl (fun hcff => ?_) (fun hcff => ?_)
      · refine qr_const rfl (w := ?_)
        refine qW_zreturn rfl (Or.inl rfl) ⟨_, rfl, qG_rf, Or.inr ⟨rfl, ?_, ?_⟩⟩
        · rw [hbad hcf (by omega)]
          exact hj
        · rw [hbad hcf (by omega)]
          exact e15
      · refine qr_il rfl rfl (w := ?_)
        refine qr_ifle rfl (fun hcfff => ?_) (fun hcfff => ?_)
        · refine qr_const rfl (w := ?_)
          refine qr_il rfl rfl (w := ?_)
          refine qr_mul rfl (by omega) (w := ?_)
          refine qr_al rfl rfl (w := ?_)
          refine qr_gr rfl kd_176 (hr := (rf_8_4 h)) (w := ?_)
          refine qr_al rfl rfl (w := ?_)
          refine qr_gi rfl kd_176 (w := ?_)
          rw [e15]
          refine qr_ia rfl kd_180 (by omega) (w := ?_)
          rw [e180]
          refine qr_add rfl (by omega) (w := ?_)
          refine qr_const rfl (w := ?_)
          refine qr_sub rfl (by omega) (w := ?_)
          refine qr_is1 rfl (w := ?_)
          refine qr_al rfl rfl (w := ?_)
          refine qr_dup rfl (w := ?_)
          refine qr_gi rfl kd_176 (w := ?_)
          rw [e15]
          refine qr_const rfl (w := ?_)
          refine qr_add rfl (by omega) (w := ?_)
          refine qr_pi rfl kd_176 (w := ?_)
          refine qr_inc2 rfl (by omega) (w := ?_)
          refine qr_goto rfl (w := ?_)
          exfalso
          omega
        · refine qr_il rfl rfl (w := ?_)
          refine qr_ifne rfl (fun hcffff => ?_) (fun hcffff => ?_)
          · refine qr_const rfl (w := ?_)
            refine qr_il rfl rfl (w := ?_)
            refine qr_mul rfl (by omega) (w := ?_)
            refine qr_al rfl rfl (w := ?_)
            refine qr_gr rfl kd_176 (hr := (rf_8_4 h)) (w := ?_)
            refine qr_al rfl rfl (w := ?_)
            refine qr_gi rfl kd_176 (w := ?_)
            rw [e15]
            refine qr_ia rfl kd_180 (by omega) (w := ?_)
            rw [e180]
            refine qr_add rfl (by omega) (w := ?_)
            refine qr_const rfl (w := ?_)
            refine qr_sub rfl (by omega) (w := ?_)
            refine qr_is1 rfl (w := ?_)
            refine qr_al rfl rfl (w := ?_)
            refine qr_dup rfl (w := ?_)
            refine qr_gi rfl kd_176 (w := ?_)
            rw [e15]
            refine qr_const rfl (w := ?_)
            refine qr_add rfl (by omega) (w := ?_)
            refine qr_pi rfl kd_176 (w := ?_)
            refine qr_inc2 rfl (by omega) (w := ?_)
            refine qr_goto rfl (w := ?_)
            have hv2 : ¬ (v = 0 ∨ 99 < v) := by omega
            have hJ2 := qRJ_step (by omega) hJ (by rw [hgood hcf hv2])
            rw [hgood hcf hv2] at hJ2
            have ev : 10 * v + c - 48 = v * 10 + c - 48 := by omega
            rw [ev]
            refine qW_mono (ih (j + 1) (v * 10 + c - 48) (n + 1) _ (by omega) (qMt_eq hT (qup_i (by decide)) (funext (fun i => qup_z (by decide)))) ((qup_i (by decide)).trans hf) qup_s (by omega) hJ2) (fun x σ hσ => ?_)
            obtain ⟨m2, rfl, hG2, hx⟩ := hσ
            refine ⟨m2, rfl, qG_tr (qG_up (Or.inl ⟨rfl, rfl⟩)) hG2, ?_⟩
            rw [hdr, qGo_y (hgood hcf hv2)]
            rcases hx with ⟨hx, v', j', g1, g2, g3, g4, g5, g6, g7, g8⟩ | hx
            · exact Or.inl ⟨hx, v', j', g1, by omega, g3, g4, g5, g6, g7, g8⟩
            · exact Or.inr hx
          · refine qr_const rfl (w := ?_)
            refine qW_zreturn rfl (Or.inl rfl) ⟨_, rfl, qG_rf, Or.inr ⟨rfl, ?_, ?_⟩⟩
            · rw [hbad hcf (by omega)]
              exact hj
            · rw [hbad hcf (by omega)]
              exact e15
theorem mReadsNumber (h : qE r) {tx : List Int} (htx : tx.length ≤ 80) {f : Nat} (hf40 : f ≤ 39) {ps : List (Int × Int)} {fs ns0 : List Int} {lv op nm : Int} {j : Nat} (hj : j < tx.length) (hT : qMt m tx) (hf : m 176 12 = (f : Int) + 1) (e15 : m 176 15 = j) (hd : qDig (tx.getD j 0) = true) (h10 : ns0.length < 10) (hJ : qRJ j (ps, fs, ns0, 4, lv, op, nm)) : qW m_Mo_readsNumber 0 [qK 176, none, none] [] (qT0, m, r) (fun x σ => ∃ m', σ = (qT0, m', r) ∧ qG (qPn f) m m' ∧ ((x = qI 1 ∧ ∃ (v' : Int) (j' : Nat), qGo (tx.drop j) (ps, fs, ns0, 4, lv, op, nm) j = qGo (tx.drop j') (ps, (fs ++ [nm]), ns0 ++ [v'], 5, lv, op, nm) j' ∧ j + 1 ≤ j' ∧ j' ≤ tx.length ∧ (j' < tx.length → qDig (tx.getD j' 0) = false) ∧ (0 ≤ v' ∧ v' ≤ 999) ∧ m' 176 15 = j' ∧ m' 185 f = v' ∧ qRJ j' (ps, (fs ++ [nm]), ns0 ++ [v'], 5, lv, op, nm)) ∨ (x = qI 0 ∧ (qGo (tx.drop j) (ps, fs, ns0, 4, lv, op, nm) j).1 < tx.length ∧ m' 176 15 = (qGo (tx.drop j) (ps, fs, ns0, 4, lv, op, nm) j).1))) := by
  have e5 := hT.1
  obtain ⟨c, hcc⟩ : ∃ c, c = tx.getD j 0 := ⟨_, rfl⟩
  have hcj : tx[j] = c := by rw [hcc, List.getD_eq_getElem?_getD, List.getElem?_eq_getElem hj]; rfl
  have hdr : tx.drop j = c :: tx.drop (j + 1) := by rw [qdrop hj, hcj]
  have e180 : m 180 j = c := (hT.2 j hj).trans hcc.symm
  rw [← hcc] at hd
  have hgood : qTk (ps, fs, ns0, 4, lv, op, nm) c = (true, (ps, fs ++ [nm], ns0 ++ [c - 48], 5, lv, op, nm)) := by
    rw [qTk_d1 hd]
    dsimp only [qDg1]
    rw [if_neg (by omega)]
  have hd48 := of_decide_eq_true hd
  have hJ2 := qRJ_step (by omega) hJ (by rw [hgood])
  rw [hgood] at hJ2
  refine qr_const rfl (w := ?_)
  refine qr_is1 rfl (w := ?_)
  refine qr_const rfl (w := ?_)
  refine qr_is2 rfl (w := ?_)
  refine qr_al rfl rfl (w := ?_)
  refine qr_gi rfl kd_176 (w := ?_)
  rw [e15]
  refine qr_al rfl rfl (w := ?_)
  refine qr_gi rfl kd_176 (w := ?_)
  refine qr_icge rfl (fun hc => absurd hc (by omega)) (fun hc => ?_)
  refine qr_al rfl rfl (w := ?_)
  refine qr_gr rfl kd_176 (hr := (rf_8_4 h)) (w := ?_)
  refine qr_al rfl rfl (w := ?_)
  refine qr_gi rfl kd_176 (w := ?_)
  rw [e15]
  refine qr_ia rfl kd_180 (by omega) (w := ?_)
  rw [e180]
  refine qr_const rfl (w := ?_)
  refine qr_const rfl (w := ?_)
  refine qr_callP rfl mIn rfl (w := ?_)
  refine qr_ifeqB rfl (fun hcf => absurd (hd.symm.trans hcf) (by decide)) (fun hcf => ?_)
  refine qr_il rfl rfl (w := ?_)
  refine qr_const rfl (w := ?_)
  refine qr_iceq rfl (fun hcff => absurd hcff (by decide)) (fun hcff => ?_)
  refine qr_il rfl rfl (w := ?_)
  refine qr_ifle rfl (fun hcfff => ?_) (fun hcfff => absurd hcfff (by omega))
  refine qr_const rfl (w := ?_)
  refine qr_il rfl rfl (w := ?_)
  refine qr_mul rfl (by omega) (w := ?_)
  refine qr_al rfl rfl (w := ?_)
  refine qr_gr rfl kd_176 (hr := (rf_8_4 h)) (w := ?_)
  refine qr_al rfl rfl (w := ?_)
  refine qr_gi rfl kd_176 (w := ?_)
  rw [e15]
  refine qr_ia rfl kd_180 (by omega) (w := ?_)
  rw [e180]
  refine qr_add rfl (by omega) (w := ?_)
  refine qr_const rfl (w := ?_)
  refine qr_sub rfl (by omega) (w := ?_)
  refine qr_is1 rfl (w := ?_)
  refine qr_al rfl rfl (w := ?_)
  refine qr_dup rfl (w := ?_)
  refine qr_gi rfl kd_176 (w := ?_)
  rw [e15]
  refine qr_const rfl (w := ?_)
  refine qr_add rfl (by omega) (w := ?_)
  refine qr_pi rfl kd_176 (w := ?_)
  refine qr_inc2 rfl (by omega) (w := ?_)
  refine qr_goto rfl (w := ?_)
  have ev : 10 * 0 + c - 48 = c - 48 := by omega
  rw [ev]
  refine qW_mono (mDigits_loop h htx hf40 (tx.length - (j + 1)) (j + 1) (c - 48) 1 _ (by omega) (qMt_eq hT (qup_i (by decide)) (funext (fun i => qup_z (by decide)))) ((qup_i (by decide)).trans hf) qup_s (by omega) hJ2) (fun x σ hσ => ?_)
  obtain ⟨m2, rfl, hG2, hx⟩ := hσ
  refine ⟨m2, rfl, qG_tr (qG_up (Or.inl ⟨rfl, rfl⟩)) hG2, ?_⟩
  rw [hdr, qGo_y hgood]
  exact hx
