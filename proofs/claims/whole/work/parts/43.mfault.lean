/-! The reference finds the fault -/
variable {m : Nat → Int → Int} {r : Nat → Int → Option Nat}
abbrev qPf : Nat → Int → Prop := fun a j => a = 183 ∨ a = 184 ∨ a = 185 ∨ a = 186 ∨ (a = 176 ∧ (j = 12 ∨ j = 14 ∨ j = 15 ∨ j = 16))
theorem qPs_f {m2 : Nat → Int → Int} {d v : Int} (hG : qG (qPs d) m m2) : (qup m2 176 15 v) 176 12 = m 176 12 ∧ (qup m2 176 15 v) 183 = m 183 ∧ (qup m2 176 15 v) 184 = m 184 ∧ (qup m2 176 15 v) 185 = m 185 ∧ (∀ j : Int, j ≤ d → (qup m2 176 15 v) 186 j = m 186 j) ∧ qG qPf m (qup m2 176 15 v) ∧ (qup m2 176 15 v) 176 14 = m2 176 14 ∧ (qup m2 176 15 v) 176 16 = m2 176 16 ∧ ∀ j : Int, (qup m2 176 15 v) 186 j = m2 186 j := by
  refine ⟨(qup_i (by decide)).trans (hG 176 12 (fun e => by rcases e with e | e <;> omega)), (funext (fun j => qup_z (by decide))).trans (qG_row hG (fun j e => by rcases e with e | e <;> omega)), (funext (fun j => qup_z (by decide))).trans (qG_row hG (fun j e => by rcases e with e | e <;> omega)), (funext (fun j => qup_z (by decide))).trans (qG_row hG (fun j e => by rcases e with e | e <;> omega)), fun j hj => (qup_z (by decide)).trans (hG 186 j (fun e => by rcases e with e | e <;> omega)), ?_, qup_i (by decide), qup_i (by decide), fun j => qup_z (by decide)⟩
  exact qG_tr (qG_mo hG (fun a j e => by rcases e with e | e <;> omega)) (qG_up (Or.inr (Or.inr (Or.inr (Or.inr ⟨rfl, Or.inr (Or.inr (Or.inl rfl))⟩)))))
theorem qMt_f {m2 : Nat → Int → Int} {tx : List Int} (hT : qMt m tx) (hG : qG qPf m m2) : qMt m2 tx := qMt_eq hT (hG 176 5 (fun e => by omega)) (qG_row hG (fun j e => by omega))
abbrev qBd (tx : List Int) (g : Nat × qRd) : Prop := g.1 < tx.length ∨ g.2.2.2.2.1 ≠ 7
theorem mFault_loop (h : qE r) {tx : List Int} (htx : tx.length ≤ 80) {n0 : Nat} : ∀ (K i : Nat) (s : qRd) (y : qA) (m : Nat → Int → Int), tx.length - i ≤ K → i ≤ tx.length → qMt m tx → m 176 15 = i → qRJ i s → qPm m n0 s → (s.2.2.2.1 = 5 → i < tx.length → qDig (tx.getD i 0) = false) → qW m_Mo_faultOf 20 [qK 176, y] [] (qT0, m, r) (fun x σ => ∃ m', σ = (qT0, m', r) ∧ qG qPf m m' ∧ x = qI (if qBd tx (qGo (tx.drop i) s i) then ((qGo (tx.drop i) s i).1 : Int) else -9) ∧ (¬ qBd tx (qGo (tx.drop i) s i) → qPm m' n0 (qGo (tx.drop i) s i).2)) := by
  intro K
  induction K with
  | zero =>
    intro i s y m hK hi hT e15 hJ hP h5
    have ei : i = tx.length := by omega
    obtain ⟨ps, fs, ns, st, lv, op, nm⟩ := s
    obtain ⟨f1, f2, f3, f4, f5, f6, f7⟩ := qRJ_facts hJ (by omega)
    have e5 := hT.1
    have e16 : m 176 16 = qMst st := hP.1.2.2
    have hg : qGo (tx.drop i) (ps, fs, ns, st, lv, op, nm) i = (i, (ps, fs, ns, st, lv, op, nm)) := by rw [qdrop_nil ei]; rfl
    rw [hg]
    have hmst : qMst st = 6 ↔ st = 7 := by
      unfold qMst
      split
      · omega
      · split <;> omega
    refine qr_al rfl rfl (w := ?_)
    refine qr_gi rfl kd_176 (w := ?_)
    refine qr_al rfl rfl (w := ?_)
    refine qr_gi rfl kd_176 (w := ?_)
    refine qr_icge rfl (fun hc => ?_) (fun hc => absurd hc (by omega))
    refine qr_al rfl rfl (w := ?_)
    refine qr_gi rfl kd_176 (w := ?_)
    refine qr_const rfl (w := ?_)
    refine qr_icne rfl (fun hct => ?_) (fun hct => ?_)
    · refine qr_al rfl rfl (w := ?_)
      refine qr_gi rfl kd_176 (w := ?_)
      refine qW_ireturn rfl ?_
      refine ⟨m, rfl, qG_rf, congrArg qI ?_, fun _ => hP⟩
      first
        | (have hb : ¬ qBd tx (i, (ps, fs, ns, st, lv, op, nm)) := fun e => e.elim (fun e => by dsimp only at e; omega) (fun e => e (hmst.mp (by omega)))
           rw [if_neg hb])
        | (have hb : qBd tx (i, (ps, fs, ns, st, lv, op, nm)) := Or.inr (fun e => by have := hmst.mpr e; omega)
           rw [if_pos hb]
           omega)
    · refine qr_const rfl (w := ?_)
      refine qr_goto rfl (w := ?_)
      refine qW_ireturn rfl ?_
      refine ⟨m, rfl, qG_rf, congrArg qI ?_, fun _ => hP⟩
      first
        | (have hb : ¬ qBd tx (i, (ps, fs, ns, st, lv, op, nm)) := fun e => e.elim (fun e => by dsimp only at e; omega) (fun e => e (hmst.mp (by omega)))
           rw [if_neg hb])
        | (have hb : qBd tx (i, (ps, fs, ns, st, lv, op, nm)) := Or.inr (fun e => by have := hmst.mpr e; omega)
           rw [if_pos hb]
           omega)
  | succ K ih =>
    intro i s y m hK hi hT e15 hJ hP h5
    by_cases ei : i = tx.length
    · exact ih i s y m (by omega) hi hT e15 hJ hP h5
    have hil : i < tx.length := by omega
    obtain ⟨ps, fs, ns, st, lv, op, nm⟩ := s
    obtain ⟨f1, f2, f3, f4, f5, f6, f7⟩ := qRJ_facts hJ (by omega)
    have e5 := hT.1
    have e16 : m 176 16 = qMst st := hP.1.2.2
    have e14 : m 176 14 = lv := hP.1.2.1
    have e12 : m 176 12 = ((qFp (ps, fs, ns, st, lv, op, nm)).length : Nat) := hP.1.1
    have hFl : (qFp (ps, fs, ns, st, lv, op, nm)).length ≤ 21 := by
      unfold qFp
      dsimp only
      rw [List.length_append, List.length_map]
      split <;> simp only [List.length_cons, List.length_nil] <;> omega
    obtain ⟨c, hcc⟩ : ∃ c, c = tx.getD i 0 := ⟨_, rfl⟩
    have hcj : tx[i] = c := by rw [hcc, List.getD_eq_getElem?_getD, List.getElem?_eq_getElem hil]; rfl
    have hdr : tx.drop i = c :: tx.drop (i + 1) := by rw [qdrop hil, hcj]
    have e180 : m 180 i = c := (hT.2 i hil).trans hcc.symm
    rw [← hcc] at h5
    have hwq : qWq ps := hJ.1.1
    have hpl : ∀ u : Int, qOu ps u < ps.length := fun u => (qOu_rn hwq u).2.2
    have hop : op < ps.length := by
      have h9 := hJ.2.2.2.2.1
      dsimp only at h9
      omega
    have hms : qMst st = if st = 6 then 5 else if st = 7 then 6 else st := rfl
    have hNext : ∀ (s' : qRd) (m2 : Nat → Int → Int), qTk (ps, fs, ns, st, lv, op, nm) c = (true, s') → s'.2.2.2.1 ≠ 5 → qPm m2 n0 s' → m2 176 15 = (i : Int) + 1 → qG qPf m m2 → qW m_Mo_faultOf 20 [qK 176, qI c] [] (qT0, m2, r) (fun x σ => ∃ m', σ = (qT0, m', r) ∧ qG qPf m m' ∧ x = qI (if qBd tx (qGo (tx.drop i) (ps, fs, ns, st, lv, op, nm) i) then ((qGo (tx.drop i) (ps, fs, ns, st, lv, op, nm) i).1 : Int) else -9) ∧ (¬ qBd tx (qGo (tx.drop i) (ps, fs, ns, st, lv, op, nm) i) → qPm m' n0 (qGo (tx.drop i) (ps, fs, ns, st, lv, op, nm) i).2)) := by
      intro s' m2 hk hs5 hP2 h15 hG2
      have hJ2 := qRJ_step (by omega) hJ (by rw [hk])
      rw [hk] at hJ2
      rw [hdr, qGo_y hk]
      refine qW_mono (ih (i + 1) s' (qI c) m2 (by omega) (by omega) (qMt_f hT hG2) h15 hJ2 hP2 (fun e => absurd e hs5)) (fun x σ hσ => ?_)
      obtain ⟨m3, rfl, g1, g2, g3⟩ := hσ
      exact ⟨m3, rfl, qG_tr hG2 g1, g2, g3⟩
    have hStop : (qTk (ps, fs, ns, st, lv, op, nm) c).1 = false → qGo (tx.drop i) (ps, fs, ns, st, lv, op, nm) i = (i, (qTk (ps, fs, ns, st, lv, op, nm) c).2) := fun hf => by
      rw [hdr]
      exact qGo_n (Prod.ext hf rfl)
    have K142 : ((st = 1 ∨ st = 2) → 97 ≤ c → c ≤ 122 → (fs.contains ((qFi ps c op 0 : Nat) : Int) = true ∨ fs.contains (100 + ((qFi ps c op 0 : Nat) : Int)) = true)) → (st = 4 → qDig c = true → 10 ≤ ns.length) → qW m_Mo_faultOf 142 [qK 176, qI c] [] (qT0, m, r) (fun x σ => ∃ m', σ = (qT0, m', r) ∧ qG qPf m m' ∧ x = qI (if qBd tx (qGo (tx.drop i) (ps, fs, ns, st, lv, op, nm) i) then ((qGo (tx.drop i) (ps, fs, ns, st, lv, op, nm) i).1 : Int) else -9) ∧ (¬ qBd tx (qGo (tx.drop i) (ps, fs, ns, st, lv, op, nm) i) → qPm m' n0 (qGo (tx.drop i) (ps, fs, ns, st, lv, op, nm) i).2)) := by
      intro hL hD
      have h55 : st = 5 → qDig c = false := fun e => h5 e hil
      refine qr_il rfl rfl (w := ?_)
      refine qr_const rfl (w := ?_)
      refine qr_iceq rfl (fun hc => ?_) (fun hc => ?_)
      · refine qr_al rfl rfl (w := ?_)
        refine qr_dup rfl (w := ?_)
        refine qr_gi rfl kd_176 (w := ?_)
        rw [e15]
        refine qr_const rfl (w := ?_)
        refine qr_add rfl (by omega) (w := ?_)
        refine qr_pi rfl kd_176 (w := ?_)
        refine qr_goto rfl (w := ?_)
        refine qr_goto rfl (w := ?_)
        refine hNext (qSpc (ps, fs, ns, st, lv, op, nm)) _ (hc ▸ qTk_sp _) (by show (if st = 5 then (6 : Int) else st) ≠ 5; split <;> omega) ?_ qup_s (qG_up (Or.inr (Or.inr (Or.inr (Or.inr ⟨rfl, Or.inr (Or.inr (Or.inl rfl))⟩)))))
        refine qPm_step hP ?_ (qup_i (by decide)) (qup_i (by decide)) ((qup_i (by decide)).trans (e16.trans ?_)) (funext (fun j => qup_z (by decide))) (funext (fun j => qup_z (by decide))) (funext (fun j => qup_z (by decide))) (funext (fun j => qup_z (by decide)))
        · split <;> omega
        · by_cases e : st = 5
          · rw [if_pos e, e]
            rfl
          · rw [if_neg e]
      · by_cases hx : c = 123 ∧ st = 0
        · obtain ⟨g1, g2⟩ := hx
          obtain ⟨k1, k2, k3⟩ := f3 g2
          subst g1 g2 k1 k2 k3
          refine qr_al rfl rfl (w := ?_)
          refine qr_il rfl rfl (w := ?_)
          refine qr_callA rfl (mSign_open (f := (qFp (ps, [], ns, 0, 0, -9, nm)).length) (d := 0) (ms := 0) h e12 (by omega) e14 e16 rfl (by omega) (Or.inl rfl)) (qrcv1 kd_176) (w := fun x σ hσ => ?_)
          obtain ⟨m2, rfl, rfl, p1, p2, p3, hG2⟩ := hσ
          have e15b : m2 176 15 = i := (hG2 176 15 (fun e => by first | omega | (rcases e with e | e <;> omega))).trans e15
          refine qr_ifeq rfl (fun e => absurd e (by decide)) (fun _ => ?_)
          refine qr_al rfl rfl (w := ?_)
          refine qr_dup rfl (w := ?_)
          refine qr_gi rfl kd_176 (w := ?_)
          rw [e15b]
          refine qr_const rfl (w := ?_)
          refine qr_add rfl (by omega) (w := ?_)
          refine qr_pi rfl kd_176 (w := ?_)
          refine qr_goto rfl (w := ?_)
          refine qr_goto rfl (w := ?_)
          obtain ⟨u1, u2, u3, u4, u5, u6, u7, u8, u9⟩ := qPs_f (v := (i : Int) + 1) hG2
          exact hNext (ps, [], ns, 1, 1, -9, nm) _ (qTk_o0 (by omega)) (show (1 : Int) ≠ 5 by decide) (qPm_open0 hP u1 (u7.trans p1) (u8.trans p3) u2 u3 u4 ((u9 1).trans (p2.trans (if_pos rfl)))) qup_s u6
          
        have hx0 := hx
        clear hx
        by_cases hx : c = 123 ∧ st = 4 ∧ lv < 4
        · obtain ⟨g1, g2, g3⟩ := hx
          subst g1 g2
          obtain ⟨k1, k2, k3⟩ := f7 (Or.inr rfl)
          have hF1 : (qFp (ps, fs, ns, 4, lv, op, nm)).length = fs.length + 1 := by rw [qFp_34 (Or.inr rfl), List.length_append, List.length_map]; rfl
          refine qr_al rfl rfl (w := ?_)
          refine qr_il rfl rfl (w := ?_)
          refine qr_callA rfl (mSign_open (f := (qFp (ps, fs, ns, 4, lv, op, nm)).length) (d := lv) (ms := 4) h e12 (by omega) e14 e16 rfl (by omega) (Or.inr ⟨rfl, by omega⟩)) (qrcv1 kd_176) (w := fun x σ hσ => ?_)
          obtain ⟨m2, rfl, rfl, p1, p2, p3, hG2⟩ := hσ
          have e15b : m2 176 15 = i := (hG2 176 15 (fun e => by first | omega | (rcases e with e | e <;> omega))).trans e15
          refine qr_ifeq rfl (fun e => absurd e (by decide)) (fun _ => ?_)
          refine qr_al rfl rfl (w := ?_)
          refine qr_dup rfl (w := ?_)
          refine qr_gi rfl kd_176 (w := ?_)
          rw [e15b]
          refine qr_const rfl (w := ?_)
          refine qr_add rfl (by omega) (w := ?_)
          refine qr_pi rfl kd_176 (w := ?_)
          refine qr_goto rfl (w := ?_)
          refine qr_goto rfl (w := ?_)
          obtain ⟨u1, u2, u3, u4, u5, u6, u7, u8, u9⟩ := qPs_f (v := (i : Int) + 1) hG2
          rw [if_neg (by decide)] at p2
          exact hNext (ps, fs ++ [100 + nm], ns, 1, lv + 1, nm, nm) _ (qTk_o4 g3 k1) (show (1 : Int) ≠ 5 by decide) (qPm_open4 hP (f4 (by omega) (by omega)) k1 k3 hpl hop u1 (u7.trans p1) (u8.trans p3) u2 u3 u4 ((u9 _).trans (p2.trans (by omega))) u5) qup_s u6
          
        have hx1 := hx
        clear hx
        by_cases hx : c = 125 ∧ (st = 1 ∨ st = 5 ∨ st = 6)
        · obtain ⟨g1, g2⟩ := hx
          subst g1
          have hm5 : qMst st = 1 ∨ qMst st = 5 := by rw [hms]; split <;> (try split) <;> omega
          have hlv1 : 1 ≤ lv := f4 (by omega) (by omega)
          refine qr_al rfl rfl (w := ?_)
          refine qr_il rfl rfl (w := ?_)
          refine qr_callA rfl (mSign_close (f := (qFp (ps, fs, ns, st, lv, op, nm)).length) (d := lv) (ms := qMst st) h e12 (by omega) e14 e16 rfl (by omega) hm5) (qrcv1 kd_176) (w := fun x σ hσ => ?_)
          obtain ⟨m2, rfl, rfl, p1, p2, hG2⟩ := hσ
          have e15b : m2 176 15 = i := (hG2 176 15 (fun e => by first | omega | (rcases e with e | e <;> omega))).trans e15
          refine qr_ifeq rfl (fun e => absurd e (by decide)) (fun _ => ?_)
          refine qr_al rfl rfl (w := ?_)
          refine qr_dup rfl (w := ?_)
          refine qr_gi rfl kd_176 (w := ?_)
          rw [e15b]
          refine qr_const rfl (w := ?_)
          refine qr_add rfl (by omega) (w := ?_)
          refine qr_pi rfl kd_176 (w := ?_)
          refine qr_goto rfl (w := ?_)
          refine qr_goto rfl (w := ?_)
          obtain ⟨u1, u2, u3, u4, u5, u6, u7, u8, u9⟩ := qPs_f (v := (i : Int) + 1) hG2
          exact hNext _ _ (qTk_cl g2) (show (if lv - 1 = 0 then (7 : Int) else 6) ≠ 5 by split <;> omega) (qPm_close hP (by omega) hlv1 u1 (u7.trans p1) (u8.trans p2) u2 u3 u4 u5) qup_s u6
          
        have hx2 := hx
        clear hx
        by_cases hx : c = 44 ∧ (st = 5 ∨ st = 6)
        · obtain ⟨g1, g2⟩ := hx
          subst g1
          have hm5 : qMst st = 5 := by rw [hms]; split <;> (try split) <;> omega
          refine qr_al rfl rfl (w := ?_)
          refine qr_il rfl rfl (w := ?_)
          refine qr_callA rfl (mSign_comma (f := (qFp (ps, fs, ns, st, lv, op, nm)).length) (d := lv) (ms := qMst st) h e12 (by omega) e14 e16 rfl hm5) (qrcv1 kd_176) (w := fun x σ hσ => ?_)
          obtain ⟨m2, rfl, rfl, p1, hG2⟩ := hσ
          have e15b : m2 176 15 = i := (hG2 176 15 (fun e => by first | omega | (rcases e with e | e <;> omega))).trans e15
          refine qr_ifeq rfl (fun e => absurd e (by decide)) (fun _ => ?_)
          refine qr_al rfl rfl (w := ?_)
          refine qr_dup rfl (w := ?_)
          refine qr_gi rfl kd_176 (w := ?_)
          rw [e15b]
          refine qr_const rfl (w := ?_)
          refine qr_add rfl (by omega) (w := ?_)
          refine qr_pi rfl kd_176 (w := ?_)
          refine qr_goto rfl (w := ?_)
          refine qr_goto rfl (w := ?_)
          have hG3 : qG (qPs lv) m m2 := qG_mo hG2 (fun a j e => Or.inr ⟨e.1, Or.inr e.2⟩)
          obtain ⟨u1, u2, u3, u4, u5, u6, u7, u8, u9⟩ := qPs_f (v := (i : Int) + 1) hG3
          have u10 : (qup m2 176 15 ((i : Int) + 1)) 186 = m 186 := (funext (fun j => qup_z (by decide))).trans (qG_row hG2 (fun j e => by omega))
          have u11 : (qup m2 176 15 ((i : Int) + 1)) 176 14 = m 176 14 := u7.trans (hG2 176 14 (fun e => by omega))
          exact hNext (ps, fs, ns, 2, lv, op, nm) _ (qTk_cm g2) (show (2 : Int) ≠ 5 by decide) (qPm_step hP (by omega) u1 u11 (u8.trans p1) u2 u3 u4 u10) qup_s u6
          
        have hx3 := hx
        clear hx
        by_cases hx : c = 58 ∧ st = 3
        · obtain ⟨g1, g2⟩ := hx
          subst g1 g2
          refine qr_al rfl rfl (w := ?_)
          refine qr_il rfl rfl (w := ?_)
          refine qr_callA rfl (mSign_colon (f := (qFp (ps, fs, ns, 3, lv, op, nm)).length) (d := lv) (ms := 3) h e12 (by omega) e14 e16 rfl rfl) (qrcv1 kd_176) (w := fun x σ hσ => ?_)
          obtain ⟨m2, rfl, rfl, p1, hG2⟩ := hσ
          have e15b : m2 176 15 = i := (hG2 176 15 (fun e => by first | omega | (rcases e with e | e <;> omega))).trans e15
          refine qr_ifeq rfl (fun e => absurd e (by decide)) (fun _ => ?_)
          refine qr_al rfl rfl (w := ?_)
          refine qr_dup rfl (w := ?_)
          refine qr_gi rfl kd_176 (w := ?_)
          rw [e15b]
          refine qr_const rfl (w := ?_)
          refine qr_add rfl (by omega) (w := ?_)
          refine qr_pi rfl kd_176 (w := ?_)
          refine qr_goto rfl (w := ?_)
          refine qr_goto rfl (w := ?_)
          have hG3 : qG (qPs lv) m m2 := qG_mo hG2 (fun a j e => Or.inr ⟨e.1, Or.inr e.2⟩)
          obtain ⟨u1, u2, u3, u4, u5, u6, u7, u8, u9⟩ := qPs_f (v := (i : Int) + 1) hG3
          have u10 : (qup m2 176 15 ((i : Int) + 1)) 186 = m 186 := (funext (fun j => qup_z (by decide))).trans (qG_row hG2 (fun j e => by omega))
          have u11 : (qup m2 176 15 ((i : Int) + 1)) 176 14 = m 176 14 := u7.trans (hG2 176 14 (fun e => by omega))
          exact hNext (ps, fs, ns, 4, lv, op, nm) _ qTk_cn (show (4 : Int) ≠ 5 by decide) (qPm_step hP (by omega) u1 u11 (u8.trans p1) u2 u3 u4 u10) qup_s u6
          
        have hx4 := hx
        clear hx
        refine qr_al rfl rfl (w := ?_)
        refine qr_il rfl rfl (w := ?_)
        have n1 : ¬ (c = 123 ∧ (qMst st = 0 ∨ (qMst st = 4 ∧ lv < 4))) := by
          rw [hms]
          split <;> (try split) <;> omega
        have n2 : ¬ (c = 125 ∧ (qMst st = 1 ∨ qMst st = 5)) := by
          rw [hms]
          split <;> (try split) <;> omega
        have n3 : ¬ (c = 44 ∧ qMst st = 5) := by
          rw [hms]
          split <;> (try split) <;> omega
        have n4 : ¬ (c = 58 ∧ qMst st = 3) := by
          rw [hms]
          split <;> (try split) <;> omega
        refine qr_callA rfl (mSign_none (f := (qFp (ps, fs, ns, st, lv, op, nm)).length) (d := lv) (ms := qMst st) h e12 (by omega) e14 e16 n1 n2 n3 n4) (qrcv1 kd_176) (w := fun x σ hσ => ?_)
        obtain ⟨m2, rfl, rfl, hG2⟩ := hσ
        have e15b : m2 176 15 = i := (hG2 176 15 (fun e => by omega)).trans e15
        refine qr_ifeq rfl (fun _ => ?_) (fun e => absurd rfl e)
        refine qr_al rfl rfl (w := ?_)
        refine qr_gi rfl kd_176 (w := ?_)
        refine qW_ireturn rfl ?_
        have hst2 := hStop (qTk_none f1 hc (by omega) (by omega) (by omega) (by omega) hL hD h55)
        have hb : qBd tx (qGo (tx.drop i) (ps, fs, ns, st, lv, op, nm) i) := by rw [hst2]; exact Or.inl hil
        refine ⟨m2, rfl, qG_mo hG2 (fun a j e => Or.inr (Or.inr (Or.inr (Or.inr ⟨e.1, Or.inr (Or.inr (Or.inr e.2))⟩)))), congrArg qI ?_, fun e => absurd hb e⟩
        rw [if_pos hb, hst2, e15b]
        
    have hq4 : qMst st = 4 → st = 4 := fun e => by
      rw [hms] at e
      split at e <;> (try split at e) <;> omega
    have hq12 : (qMst st = 1 → st = 1) ∧ (qMst st = 2 → st = 2) ∧ ((st = 1 ∨ st = 2) → qMst st = st) := by
      rw [hms]
      refine ⟨fun e => ?_, fun e => ?_, fun e => ?_⟩
      · split at e <;> (try split at e) <;> omega
      · split at e <;> (try split at e) <;> omega
      · split <;> (try split) <;> omega
    have K94 : ((st = 1 ∨ st = 2) → 97 ≤ c → c ≤ 122 → (fs.contains ((qFi ps c op 0 : Nat) : Int) = true ∨ fs.contains (100 + ((qFi ps c op 0 : Nat) : Int)) = true)) → qW m_Mo_faultOf 94 [qK 176, qI c] [] (qT0, m, r) (fun x σ => ∃ m', σ = (qT0, m', r) ∧ qG qPf m m' ∧ x = qI (if qBd tx (qGo (tx.drop i) (ps, fs, ns, st, lv, op, nm) i) then ((qGo (tx.drop i) (ps, fs, ns, st, lv, op, nm) i).1 : Int) else -9) ∧ (¬ qBd tx (qGo (tx.drop i) (ps, fs, ns, st, lv, op, nm) i) → qPm m' n0 (qGo (tx.drop i) (ps, fs, ns, st, lv, op, nm) i).2)) := by
      intro hL
      refine qr_il rfl rfl (w := ?_)
      refine qr_const rfl (w := ?_)
      refine qr_const rfl (w := ?_)
      refine qr_callP rfl mIn rfl (w := ?_)
      refine qr_ifeqB rfl (fun hc => ?_) (fun hc => ?_)
      · exact K142 hL (fun _ e => by rw [show qDig c = decide (48 ≤ c ∧ c ≤ 57) from rfl, hc] at e; cases e)
      · refine qr_al rfl rfl (w := ?_)
        refine qr_gi rfl kd_176 (w := ?_)
        rw [e16]
        refine qr_const rfl (w := ?_)
        refine qr_icne rfl (fun hcf => ?_) (fun hcf => ?_)
        · exact K142 hL (fun e _ => absurd (show qMst st = 4 by rw [e]; rfl) (by assumption))
        · refine qr_al rfl rfl (w := ?_)
          have h4 := hq4 (by omega)
          subst h4
          have hF1 : (qFp (ps, fs, ns, 4, lv, op, nm)).length = fs.length + 1 := by rw [qFp_34 (Or.inr rfl), List.length_append, List.length_map]; rfl
          have e12b : m 176 12 = (fs.length : Int) + 1 := by rw [e12, hF1]; rfl
          have hvn : qVl (m 185) fs.length = ns := hP.2.2.2.2.1
          refine qr_callP rfl (mNumberMany (f := fs.length) h e12b (by omega)) (qrcv1 kd_176) (w := ?_)
          rw [hvn]
          refine qr_const rfl (w := ?_)
          refine qr_icge rfl (fun hcff => ?_) (fun hcff => ?_)
          · exact K142 hL (fun _ _ => by omega)
          · refine qr_al rfl rfl (w := ?_)
            have hdg : qDig (tx.getD i 0) = true := by rw [← hcc]; exact hc
            obtain ⟨k1, k2, k3⟩ := f7 (Or.inr rfl)
            refine qr_callA rfl (mReadsNumber (f := fs.length) h htx (by omega) hil hT e12b e15 hdg (by omega) hJ) (qrcv1 kd_176) (w := fun x σ hσ => ?_)
            obtain ⟨m2, rfl, hG2, hx⟩ := hσ
            have hG2' : qG qPf m m2 := qG_mo hG2 (fun a j e => by rcases e with e | e <;> omega)
            rcases hx with ⟨rfl, v', j', g1, g2, g3, g4, g5, g6, g7, g8⟩ | ⟨rfl, g1, g2⟩
            · refine qr_ifne rfl (fun _ => ?_) (fun e => absurd e (by decide))
              refine qr_al rfl rfl (w := ?_)
              refine qr_const rfl (w := ?_)
              refine qr_pi rfl kd_176 (w := ?_)
              refine qr_goto rfl (w := ?_)
              refine qr_goto rfl (w := ?_)
              rw [g1]
              have hnm : nm < 100 := by omega
              have u5 : qG qPf m (qup m2 176 16 5) := qG_tr hG2' (qG_up (Or.inr (Or.inr (Or.inr (Or.inr ⟨rfl, Or.inr (Or.inr (Or.inr rfl))⟩)))))
              have hP2 : qPm (qup m2 176 16 5) n0 (ps, fs ++ [nm], ns ++ [v'], 5, lv, op, nm) := qPm_number hP hnm g5.1 ((qup_i (by decide)).trans (hG2 176 12 (fun e => by omega))) ((qup_i (by decide)).trans (hG2 176 14 (fun e => by omega))) qup_s ((funext (fun j => qup_z (by decide))).trans (qG_row hG2 (fun j e => by omega))) ((funext (fun j => qup_z (by decide))).trans (qG_row hG2 (fun j e => by omega))) ((qup_z (by decide)).trans g7) (fun k hk => (qup_z (by decide)).trans (hG2 185 k (fun e => by omega))) ((funext (fun j => qup_z (by decide))).trans (qG_row hG2 (fun j e => by omega)))
              refine qW_mono (ih j' _ (qI c) _ (by omega) g3 (qMt_f hT u5) ((qup_i (by decide)).trans g6) g8 hP2 (fun _ hj => g4 hj)) (fun x σ hσ => ?_)
              obtain ⟨m3, rfl, q1, q2, q3⟩ := hσ
              exact ⟨m3, rfl, qG_tr u5 q1, q2, q3⟩
            · refine qr_ifne rfl (fun e => absurd rfl e) (fun _ => ?_)
              refine qr_al rfl rfl (w := ?_)
              refine qr_gi rfl kd_176 (w := ?_)
              refine qW_ireturn rfl ?_
              have hb : qBd tx (qGo (tx.drop i) (ps, fs, ns, 4, lv, op, nm) i) := Or.inl g1
              refine ⟨m2, rfl, hG2', congrArg qI ?_, fun e => absurd hb e⟩
              rw [if_pos hb, g2]
            
    refine qr_al rfl rfl (w := ?_)
    refine qr_gi rfl kd_176 (w := ?_)
    rw [e15]
    refine qr_al rfl rfl (w := ?_)
    refine qr_gi rfl kd_176 (w := ?_)
    refine qr_icge rfl (fun hc => absurd hc (by omega)) (fun hc => ?_)
    refine qr_al rfl rfl (w := ?_)
    refine qr_gr rfl kd_176 (hr := (rf_8_4 h)) (w := ?_)
    refine qr_al rfl rfl (w := ?_)
    refine qr_gi rfl kd_176 (w := ?_)
    rw [e15]
    refine qr_ia rfl kd_180 (by omega) (w := ?_)
    rw [e180]
    refine qr_is1 rfl (w := ?_)
    refine qr_il rfl rfl (w := ?_)
    refine qr_const rfl (w := ?_)
    refine qr_const rfl (w := ?_)
    refine qr_callP rfl mIn rfl (w := ?_)
    refine qr_ifeqB rfl (fun hcf => ?_) (fun hcf => ?_)
    · exact K94 (fun _ h1 h2 => absurd ⟨h1, h2⟩ (of_decide_eq_false hcf))
    · refine qr_al rfl rfl (w := ?_)
      refine qr_gi rfl kd_176 (w := ?_)
      rw [e16]
      refine qr_const rfl (w := ?_)
      refine qr_iceq rfl (fun hcff => ?_) (fun hcff => ?_)
      · refine qr_al rfl rfl (w := ?_)
        refine qr_il rfl rfl (w := ?_)
        have hs12 : st = 1 ∨ st = 2 := by omega
        have hF0 : (qFp (ps, fs, ns, st, lv, op, nm)).length = fs.length := by rw [qFp_no (by omega), List.length_map]
        have e12b : m 176 12 = (fs.length : Nat) := by rw [e12, hF0]
        refine qr_callP rfl (mStands (f := fs.length) (d := lv) h e12b (by omega) e14 f2) (qrcv1 kd_176) (w := ?_)
        refine qr_ifneB rfl (fun hcfft => ?_) (fun hcfft => ?_)
        · exact K94 (fun _ _ _ => (qStd_eq (c := c) hP hs12 hJ (by omega)).mp hcfft)
        · refine qr_al rfl rfl (w := ?_)
          refine qr_il rfl rfl (w := ?_)
          refine qr_callV rfl (mTakesLetter (f := fs.length) (d := lv) (c := c) h e12b (by omega) e14 f2) (qrcv1 kd_176) (w := fun _ σ hσ => ?_)
          obtain ⟨m2, rfl, p1, p2, p3, p4, p5, hG2⟩ := hσ
          have e15b : m2 176 15 = i := (hG2 176 15 (fun e => by omega)).trans e15
          refine qr_al rfl rfl (w := ?_)
          refine qr_dup rfl (w := ?_)
          refine qr_gi rfl kd_176 (w := ?_)
          rw [e15b]
          refine qr_const rfl (w := ?_)
          refine qr_add rfl (by omega) (w := ?_)
          refine qr_pi rfl kd_176 (w := ?_)
          refine qr_goto rfl (w := ?_)
          refine qr_goto rfl (w := ?_)
          have hlt := of_decide_eq_true hcf
          have hno := qStd_eq (c := c) hP hs12 hJ (by omega)
          have hc1 : fs.contains ((qFi ps c op 0 : Nat) : Int) = false := Bool.eq_false_iff.mpr (fun e => by rw [hno.mpr (Or.inl e)] at hcfft; cases hcfft)
          have hc2 : fs.contains (100 + ((qFi ps c op 0 : Nat) : Int)) = false := Bool.eq_false_iff.mpr (fun e => by rw [hno.mpr (Or.inr e)] at hcfft; cases hcfft)
          have hk : qTk (ps, fs, ns, st, lv, op, nm) c = (true, (qAd ps c op, fs, ns, 3, lv, op, ((qFi ps c op 0 : Nat) : Int))) := by
            rw [qTk_let hs12 (by omega) (by omega), qLet_v, if_neg (by omega), hc1, hc2]
            rfl
          have hfl : ∀ f ∈ fs, 0 ≤ qPa f ∧ qPa f < ps.length := fun f hf => ⟨(hJ.2.1 f hf).2.1, (hJ.2.1 f hf).2.2.1⟩
          have up : qG qPf m (qup m2 176 15 ((i : Int) + 1)) := qG_tr (qG_mo hG2 (fun a j e => by omega)) (qG_up (Or.inr (Or.inr (Or.inr (Or.inr ⟨rfl, Or.inr (Or.inr (Or.inl rfl))⟩)))))
          refine hNext _ _ hk (show (3 : Int) ≠ 5 by decide) (qPm_letter hP hs12 (f4 (by omega) (by omega)) hwq hop hfl ((qup_i (by decide)).trans p4) ((qup_i (by decide)).trans (hG2 176 14 (fun e => by omega))) ((qup_i (by decide)).trans p5) ((qup_z (by decide)).trans p1) (fun k hk => (qup_z (by decide)).trans (hG2 183 k (fun e => by omega))) ((qup_z (by decide)).trans p2) (fun k hk => (qup_z (by decide)).trans (hG2 184 k (fun e => by omega))) ((qup_z (by decide)).trans p3) (fun k hk => (qup_z (by decide)).trans (hG2 185 k (fun e => by omega))) ((funext (fun j => qup_z (by decide))).trans (qG_row hG2 (fun j e => by omega)))) qup_s up
      · refine qr_al rfl rfl (w := ?_)
        refine qr_gi rfl kd_176 (w := ?_)
        rw [e16]
        refine qr_const rfl (w := ?_)
        refine qr_icne rfl (fun hcfff => ?_) (fun hcfff => ?_)
        · exact K94 (fun hs _ _ => by exfalso; have := hq12.2.2 hs; omega)
        · refine qr_al rfl rfl (w := ?_)
          refine qr_il rfl rfl (w := ?_)
          have hs12 : st = 1 ∨ st = 2 := by omega
          have hF0 : (qFp (ps, fs, ns, st, lv, op, nm)).length = fs.length := by rw [qFp_no (by omega), List.length_map]
          have e12b : m 176 12 = (fs.length : Nat) := by rw [e12, hF0]
          refine qr_callP rfl (mStands (f := fs.length) (d := lv) h e12b (by omega) e14 f2) (qrcv1 kd_176) (w := ?_)
          refine qr_ifneB rfl (fun hcffff => ?_) (fun hcffff => ?_)
          · exact K94 (fun _ _ _ => (qStd_eq (c := c) hP hs12 hJ (by omega)).mp hcffff)
          · refine qr_al rfl rfl (w := ?_)
            refine qr_il rfl rfl (w := ?_)
            refine qr_callV rfl (mTakesLetter (f := fs.length) (d := lv) (c := c) h e12b (by omega) e14 f2) (qrcv1 kd_176) (w := fun _ σ hσ => ?_)
            obtain ⟨m2, rfl, p1, p2, p3, p4, p5, hG2⟩ := hσ
            have e15b : m2 176 15 = i := (hG2 176 15 (fun e => by omega)).trans e15
            refine qr_al rfl rfl (w := ?_)
            refine qr_dup rfl (w := ?_)
            refine qr_gi rfl kd_176 (w := ?_)
            rw [e15b]
            refine qr_const rfl (w := ?_)
            refine qr_add rfl (by omega) (w := ?_)
            refine qr_pi rfl kd_176 (w := ?_)
            refine qr_goto rfl (w := ?_)
            refine qr_goto rfl (w := ?_)
            have hlt := of_decide_eq_true hcf
            have hno := qStd_eq (c := c) hP hs12 hJ (by omega)
            have hc1 : fs.contains ((qFi ps c op 0 : Nat) : Int) = false := Bool.eq_false_iff.mpr (fun e => by rw [hno.mpr (Or.inl e)] at hcffff; cases hcffff)
            have hc2 : fs.contains (100 + ((qFi ps c op 0 : Nat) : Int)) = false := Bool.eq_false_iff.mpr (fun e => by rw [hno.mpr (Or.inr e)] at hcffff; cases hcffff)
            have hk : qTk (ps, fs, ns, st, lv, op, nm) c = (true, (qAd ps c op, fs, ns, 3, lv, op, ((qFi ps c op 0 : Nat) : Int))) := by
              rw [qTk_let hs12 (by omega) (by omega), qLet_v, if_neg (by omega), hc1, hc2]
              rfl
            have hfl : ∀ f ∈ fs, 0 ≤ qPa f ∧ qPa f < ps.length := fun f hf => ⟨(hJ.2.1 f hf).2.1, (hJ.2.1 f hf).2.2.1⟩
            have up : qG qPf m (qup m2 176 15 ((i : Int) + 1)) := qG_tr (qG_mo hG2 (fun a j e => by omega)) (qG_up (Or.inr (Or.inr (Or.inr (Or.inr ⟨rfl, Or.inr (Or.inr (Or.inl rfl))⟩)))))
            refine hNext _ _ hk (show (3 : Int) ≠ 5 by decide) (qPm_letter hP hs12 (f4 (by omega) (by omega)) hwq hop hfl ((qup_i (by decide)).trans p4) ((qup_i (by decide)).trans (hG2 176 14 (fun e => by omega))) ((qup_i (by decide)).trans p5) ((qup_z (by decide)).trans p1) (fun k hk => (qup_z (by decide)).trans (hG2 183 k (fun e => by omega))) ((qup_z (by decide)).trans p2) (fun k hk => (qup_z (by decide)).trans (hG2 184 k (fun e => by omega))) ((qup_z (by decide)).trans p3) (fun k hk => (qup_z (by decide)).trans (hG2 185 k (fun e => by omega))) ((funext (fun j => qup_z (by decide))).trans (qG_row hG2 (fun j e => by omega)))) qup_s up
theorem mFaultOf (h : qE r) {tx : List Int} (htx : tx.length ≤ 80) {ps : List (Int × Int)} (hT : qMt m tx) (hJ : qRJ 0 (qSt0 ps)) : qW m_Mo_faultOf 0 [qK 176, none] [] (qT0, m, r) (fun x σ => ∃ m', σ = (qT0, m', r) ∧ qG qPf m m' ∧ x = qI (if qBd tx (qGo tx (qSt0 ps) 0) then ((qGo tx (qSt0 ps) 0).1 : Int) else -9) ∧ (¬ qBd tx (qGo tx (qSt0 ps) 0) → qPm m' ps.length (qGo tx (qSt0 ps) 0).2)) := by
  refine qr_al rfl rfl (w := ?_)
  refine qr_const rfl (w := ?_)
  refine qr_pi rfl kd_176 (w := ?_)
  refine qr_al rfl rfl (w := ?_)
  refine qr_const rfl (w := ?_)
  refine qr_pi rfl kd_176 (w := ?_)
  refine qr_al rfl rfl (w := ?_)
  refine qr_const rfl (w := ?_)
  refine qr_pi rfl kd_176 (w := ?_)
  refine qr_al rfl rfl (w := ?_)
  refine qr_const rfl (w := ?_)
  refine qr_pi rfl kd_176 (w := ?_)
  have up : qG qPf m (qup (qup (qup (qup m 176 15 0) 176 12 0) 176 14 0) 176 16 0) := qG_tr (qG_up (Or.inr (Or.inr (Or.inr (Or.inr ⟨rfl, by omega⟩))))) (qG_tr (qG_up (Or.inr (Or.inr (Or.inr (Or.inr ⟨rfl, by omega⟩))))) (qG_tr (qG_up (Or.inr (Or.inr (Or.inr (Or.inr ⟨rfl, by omega⟩))))) (qG_up (Or.inr (Or.inr (Or.inr (Or.inr ⟨rfl, by omega⟩)))))))
  have hP0 : qPm (qup (qup (qup (qup m 176 15 0) 176 12 0) 176 14 0) 176 16 0) ps.length (qSt0 ps) := by
    refine ⟨⟨by simp [qup, qSt0, qFp], by simp [qup, qSt0], by simp [qup, qSt0, qMst]⟩, fun k hk => by simp [qFp, qSt0] at hk, fun k hk => by simp [qSt0] at hk, fun e => absurd e (show ¬ ((0 : Int) = 3 ∨ (0 : Int) = 4) by decide), rfl, trivial, rfl, rfl⟩
  have h1 := mFault_loop h htx (n0 := ps.length) tx.length 0 (qSt0 ps) none _ (Nat.sub_le _ _) (Nat.zero_le _) (qMt_f hT up) (by simp [qup]) hJ hP0 (fun e => absurd e (show ¬ (0 : Int) = 5 by decide))
  rw [List.drop_zero] at h1
  refine qW_mono h1 (fun x σ hσ => ?_)
  obtain ⟨m3, rfl, q1, q2, q3⟩ := hσ
  exact ⟨m3, rfl, qG_tr up q1, q2, q3⟩
