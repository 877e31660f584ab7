/-! The reference lays its paths: the loop -/
variable {m : Nat → Int → Int} {r : Nat → Int → Option Nat}
theorem qOk_pre (l k : List Int) : ∀ n : Nat, qOk n (l ++ k) → qOk n l := by
  induction l with
  | nil => intro n _; trivial
  | cons x t ih =>
    intro n h
    exact ⟨h.1, ih _ h.2⟩
theorem qNn_mo (l : List Int) : ∀ n : Nat, n ≤ qNn n l := by
  induction l with
  | nil => intro n; exact Nat.le_refl _
  | cons x t ih =>
    intro n
    simp only [qNn]
    refine Nat.le_trans ?_ (ih _)
    split <;> omega
theorem qNn_pre (l k : List Int) : ∀ n : Nat, qNn n l ≤ qNn n (l ++ k) := by
  induction l with
  | nil => intro n; exact qNn_mo k n
  | cons x t ih =>
    intro n
    exact ih _
theorem qNn_step {F : List Int} {n0 k : Nat} (hok : qOk n0 F) (hk : k < F.length) : (0 ≤ qAt F k ∧ qAt F k ≤ qNn n0 (F.take k)) ∧ qNn n0 (F.take (k + 1)) = (if qAt F k = qNn n0 (F.take k) then qNn n0 (F.take k) + 1 else qNn n0 (F.take k)) ∧ qNn n0 (F.take k) ≤ qNn n0 F ∧ qNn n0 (F.take (k + 1)) ≤ qNn n0 F := by
  have e : F.take (k + 1) = F.take k ++ [qAt F k] := by
    rw [List.take_add_one, List.getElem?_eq_getElem hk, qAt_lt hk]
    rfl
  have e2 : F.take k ++ F.drop k = F := List.take_append_drop k F
  have e3 : F.take (k + 1) ++ F.drop (k + 1) = F := List.take_append_drop (k + 1) F
  have h1 : qOk n0 (F.take (k + 1)) := qOk_pre _ (F.drop (k + 1)) n0 (by rw [e3]; exact hok)
  rw [e] at h1
  refine ⟨(((qNn_app _ _ n0).2).mp h1).2, ?_, ?_, ?_⟩
  · rw [e]
    exact (qNn_app _ _ n0).1
  · have := qNn_pre (F.take k) (F.drop k) n0
    rw [e2] at this
    exact this
  · have := qNn_pre (F.take (k + 1)) (F.drop (k + 1)) n0
    rw [e3] at this
    exact this
abbrev qPy : Nat → Int → Prop := fun z j => z = 177 ∨ z = 187
/-- what the reading left -/
def qLa (m : Nat → Int → Int) (P : List (Int × Int)) (fs : List Int) : Prop := m 176 12 = fs.length ∧ ∀ k : Nat, k < fs.length → m 183 k = qLe P (qPa (qAt fs k)) ∧ ((m 184 k = -9 ∧ qOu P (qPa (qAt fs k)) = -9) ∨ (0 ≤ m 184 k ∧ m 184 k < k ∧ qPa (qAt fs (m 184 k)) = qOu P (qPa (qAt fs k)))) ∧ (m 185 k = -9 ↔ 100 ≤ qAt fs k)
theorem mLays_loop (h : qE r) {a : qAS} {P : List (Int × Int)} {fs : List Int} {n0 : Nat} (hl0 : qMl (qPp a [])) (hPn : P.Nodup) (hf20 : fs.length ≤ 20) (hfs : ∀ k : Nat, k < fs.length → 0 ≤ qPa (qAt fs k) ∧ qPa (qAt fs k) < P.length ∧ qPa (qAt fs k) < 100 ∧ (qAt fs k = qPa (qAt fs k) ∨ qAt fs k = 100 + qPa (qAt fs k))) (hok : qOk n0 (fs.map qPa)) (hnn : qNn n0 (fs.map qPa) = P.length) :
    ∀ (n k : Nat) (y2 y3 : qA) (m : Nat → Int → Int), k + n = fs.length → qLa m P fs → qMb (m 177) (qPp a (P.take (qNn n0 ((fs.map qPa).take k)))) → qNn n0 ((fs.map qPa).take k) ≤ 60 → m 176 18 = fs.length → (∀ j : Nat, j < k → m 187 j = qAt fs j) →
      qW m_Mo_laysPaths 10 [qK 176, qI k, y2, y3] [] (qT0, m, r) (fun x σ => ∃ m', σ = (qT0, m', r) ∧ qG qPy m m' ∧ ((x = qI 1 ∧ P.length ≤ 60 ∧ qMb (m' 177) (qPp a P) ∧ qRo m' fs) ∨ (x = qI 0 ∧ 60 < P.length))) := by
  have hm : (fs.map qPa).length = fs.length := List.length_map _
  intro n
  induction n with
  | zero =>
    intro k y2 y3 m hk hA hB h60 h18 hrow
    have e12 := hA.1
    have ek : k = fs.length := by omega
    have et : (fs.map qPa).take k = fs.map qPa := List.take_of_length_le (by rw [hm]; omega)
    rw [et, hnn] at hB h60
    rw [List.take_length] at hB
    refine qr_il rfl rfl (w := ?_)
    refine qr_al rfl rfl (w := ?_)
    refine qr_gi rfl kd_176 (w := ?_)
    refine qr_icge rfl (fun hc => ?_) (fun hc => absurd hc (by omega))
    refine qr_const rfl (w := ?_)
    refine qW_zreturn rfl (Or.inr rfl) ⟨m, rfl, qG_rf, Or.inl ⟨rfl, h60, hB, h18, fun j g0 g1 => ?_⟩⟩
    obtain ⟨j, rfl⟩ : ∃ y : Nat, j = y := ⟨j.toNat, by omega⟩
    exact hrow j (by omega)
  | succ n ih =>
    intro k y2 y3 m hk hA hB h60 h18 hrow
    have e12 := hA.1
    have hkl : k < fs.length := by omega
    obtain ⟨a1, a2, a3⟩ := hA.2 k hkl
    obtain ⟨g1, g2, g3, g4⟩ := hfs k hkl
    obtain ⟨s1, s2, s3, s4⟩ := qNn_step (k := k) hok (by rw [hm]; exact hkl)
    have hFk : qAt (fs.map qPa) k = qPa (qAt fs k) := by rw [qAt_lt (by rw [hm]; exact hkl), List.getElem_map, qAt_lt hkl]
    rw [hFk] at s1 s2
    rw [hnn] at s3 s4
    obtain ⟨N, hN⟩ : ∃ N, N = qNn n0 ((fs.map qPa).take k) := ⟨_, rfl⟩
    rw [← hN] at hB h60 s1 s2 s3
    obtain ⟨f, hf⟩ : ∃ f : Nat, qPa (qAt fs k) = f := ⟨(qPa (qAt fs k)).toNat, by omega⟩
    rw [hf] at g1 g2 g3 g4 a1 a2 s1 s2
    have hlen : (P.take N).length = N := by rw [List.length_take]; omega
    have hl : qMl (qPp a (P.take N)) := ⟨by show (P.take N).length ≤ 60; omega, hl0.2.1, hl0.2.2.1, hl0.2.2.2.1, hl0.2.2.2.2⟩
    have b1 : m 177 1 = N := by
      have h9 := hB.1.2.1
      have h9 : m 177 1 = ((P.take N).length : Nat) := h9
      rw [hlen] at h9
      exact h9
    have hfi := qFi_take hPn (f := f) (n := N) (by omega) s3
    -- what the place of the fields before says
    have hin : ∀ j : Nat, m 184 k = j → j < k → m 187 j % 100 = qOu P f := fun j e hj => by
      rw [hrow j hj]
      rcases a2 with ⟨c1, c2⟩ | ⟨c1, c2, c3⟩
      · omega
      · rw [e] at c3
        rw [← c3]
        obtain ⟨d1, d2, d3, d4⟩ := hfs j (by omega)
        omega
    have hin0 : ∀ j : Nat, j < k → 0 ≤ m 187 j := fun j hj => by
      rw [hrow j hj]
      obtain ⟨d1, d2, d3, d4⟩ := hfs j (by omega)
      omega
    have KP : ∀ (y3 : qA), qW m_Mo_laysPaths 49 [qK 176, qI k, qI (qOu P f), y3] [] (qT0, m, r) (fun x σ => ∃ m', σ = (qT0, m', r) ∧ qG qPy m m' ∧ ((x = qI 1 ∧ P.length ≤ 60 ∧ qMb (m' 177) (qPp a P) ∧ qRo m' fs) ∨ (x = qI 0 ∧ 60 < P.length))) := by
      intro y3
      -- the row's end, in both cases
      have KR : ∀ (m2 : Nat → Int → Int) (y2 : qA), qG qPy m m2 → m2 187 = m 187 → qMb (m2 177) (qPp a (P.take (qNn n0 ((fs.map qPa).take (k + 1))))) → qNn n0 ((fs.map qPa).take (k + 1)) ≤ 60 → qW m_Mo_laysPaths 126 [qK 176, qI k, y2, qI f] [] (qT0, m2, r) (fun x σ => ∃ m', σ = (qT0, m', r) ∧ qG qPy m m' ∧ ((x = qI 1 ∧ P.length ≤ 60 ∧ qMb (m' 177) (qPp a P) ∧ qRo m' fs) ∨ (x = qI 0 ∧ 60 < P.length))) := by
        intro m2 y2 hG2 h187 hB2 h602
        have f1 : ∀ (v : Int), qG qPy m (qup m2 187 k v) := fun v => qG_tr hG2 (qG_up (Or.inr rfl))
        have e185 : m2 185 k = m 185 k := hG2 185 k (fun e => by omega)
        refine qr_al rfl rfl (w := ?_)
        refine qr_gr rfl kd_176 (hr := (rf_8_17 h)) (w := ?_)
        refine qr_il rfl rfl (w := ?_)
        refine qr_al rfl rfl (w := ?_)
        refine qr_gr rfl kd_176 (hr := (rf_8_11 h)) (w := ?_)
        refine qr_il rfl rfl (w := ?_)
        refine qr_ia rfl kd_185 (by omega) (w := ?_)
        rw [e185]
        refine qr_const rfl (w := ?_)
        refine qr_icne rfl (fun hc => ?_) (fun hc => ?_)
        · refine qr_il rfl rfl (w := ?_)
          refine qr_ias rfl kd_187 (by omega) (w := ?_)
          refine qr_inc1 rfl (by omega) (w := ?_)
          refine qr_goto rfl (w := ?_)
          have fG := f1 ((f : Int))
          have c76 : ∀ j : Int, (qup m2 187 k ((f : Int))) 176 j = m 176 j := fun j => fG 176 j (fun e => by omega)
          have c83 : (qup m2 187 k ((f : Int))) 183 = m 183 := qG_row fG (fun j e => by omega)
          have c84 : (qup m2 187 k ((f : Int))) 184 = m 184 := qG_row fG (fun j e => by omega)
          have c85 : (qup m2 187 k ((f : Int))) 185 = m 185 := qG_row fG (fun j e => by omega)
          have c77 : (qup m2 187 k ((f : Int))) 177 = m2 177 := funext (fun j => qup_z (by decide))
          have hA2 : qLa (qup m2 187 k ((f : Int))) P fs := by
            unfold qLa
            rw [c83, c84, c85, c76]
            exact hA
          refine qW_mono (ih (k + 1) y2 (qI f) _ (by omega) hA2 (by rw [c77]; exact hB2) h602 ((c76 18).trans h18) (fun j hj => ?_)) (fun x σ hσ => ?_)
          · by_cases hjk : j = k
            · subst hjk
              rw [qup_s]
              omega
            · rw [qup_i (by omega), h187]
              exact hrow j (by omega)
          · obtain ⟨m3, rfl, q1, q2⟩ := hσ
            exact ⟨m3, rfl, qG_tr fG q1, q2⟩
        · refine qr_const rfl (w := ?_)
          refine qr_il rfl rfl (w := ?_)
          refine qr_add rfl (by omega) (w := ?_)
          refine qr_goto rfl (w := ?_)
          refine qr_ias rfl kd_187 (by omega) (w := ?_)
          refine qr_inc1 rfl (by omega) (w := ?_)
          refine qr_goto rfl (w := ?_)
          have fG := f1 (100 + (f : Int))
          have c76 : ∀ j : Int, (qup m2 187 k (100 + (f : Int))) 176 j = m 176 j := fun j => fG 176 j (fun e => by omega)
          have c83 : (qup m2 187 k (100 + (f : Int))) 183 = m 183 := qG_row fG (fun j e => by omega)
          have c84 : (qup m2 187 k (100 + (f : Int))) 184 = m 184 := qG_row fG (fun j e => by omega)
          have c85 : (qup m2 187 k (100 + (f : Int))) 185 = m 185 := qG_row fG (fun j e => by omega)
          have c77 : (qup m2 187 k (100 + (f : Int))) 177 = m2 177 := funext (fun j => qup_z (by decide))
          have hA2 : qLa (qup m2 187 k (100 + (f : Int))) P fs := by
            unfold qLa
            rw [c83, c84, c85, c76]
            exact hA
          refine qW_mono (ih (k + 1) y2 (qI f) _ (by omega) hA2 (by rw [c77]; exact hB2) h602 ((c76 18).trans h18) (fun j hj => ?_)) (fun x σ hσ => ?_)
          · by_cases hjk : j = k
            · subst hjk
              rw [qup_s]
              omega
            · rw [qup_i (by omega), h187]
              exact hrow j (by omega)
          · obtain ⟨m3, rfl, q1, q2⟩ := hσ
            exact ⟨m3, rfl, qG_tr fG q1, q2⟩
      refine qr_al rfl rfl (w := ?_)
      refine qr_al rfl rfl (w := ?_)
      refine qr_gr rfl kd_176 (hr := (rf_8_9 h)) (w := ?_)
      refine qr_il rfl rfl (w := ?_)
      refine qr_ia rfl kd_183 (by omega) (w := ?_)
      refine qr_il rfl rfl (w := ?_)
      rw [a1]
      refine qr_callP rfl (mPathWith (l := qLe P f) (u := qOu P f) h hB hl) (qrcv1 kd_176) (w := ?_)
      show qW m_Mo_laysPaths 60 _ (qI (if qFi (P.take N) (qLe P f) (qOu P f) 0 < (P.take N).length then ((qFi (P.take N) (qLe P f) (qOu P f) 0 : Nat) : Int) else -9) :: List.drop _ _) (qT0, m, r) _
      rw [hfi, hlen]
      by_cases hold : f < N
      · rw [if_pos hold, if_pos hold]
        refine qr_is3 rfl (w := ?_)
        refine qr_il rfl rfl (w := ?_)
        refine qr_const rfl (w := ?_)
        refine qr_icne rfl (fun _ => ?_) (fun e => absurd e (by omega))
        have s2' : qNn n0 ((fs.map qPa).take (k + 1)) = N := by rw [s2, if_neg (by omega)]
        exact KR m _ qG_rf rfl (by rw [s2']; exact hB) (by rw [s2']; exact h60)
      have hfN : f = N := by omega
      rw [if_neg hold, if_neg (Nat.lt_irrefl N)]
      have s2' : qNn n0 ((fs.map qPa).take (k + 1)) = N + 1 := by rw [s2, if_pos (by omega)]
      refine qr_is3 rfl (w := ?_)
      refine qr_il rfl rfl (w := ?_)
      refine qr_const rfl (w := ?_)
      refine qr_icne rfl (fun e => absurd rfl e) (fun _ => ?_)
      
      refine qr_al rfl rfl (w := ?_)
      refine qr_gr rfl kd_176 (hr := (rf_8_0 h)) (w := ?_)
      refine qr_const rfl (w := ?_)
      refine qr_ia rfl kd_177 (by omega) (w := ?_)
      rw [b1]
      refine qr_const rfl (w := ?_)
      refine qr_icne rfl (fun hc => ?_) (fun hc => ?_)
      · refine qr_al rfl rfl (w := ?_)
        refine qr_gr rfl kd_176 (hr := (rf_8_0 h)) (w := ?_)
        refine qr_const rfl (w := ?_)
        refine qr_ia rfl kd_177 (by omega) (w := ?_)
        rw [b1]
        refine qr_is3 rfl (w := ?_)
        refine qr_al rfl rfl (w := ?_)
        refine qr_gr rfl kd_176 (hr := (rf_8_0 h)) (w := ?_)
        refine qr_const rfl (w := ?_)
        refine qr_const rfl (w := ?_)
        refine qr_il rfl rfl (w := ?_)
        refine qr_mul rfl (by omega) (w := ?_)
        refine qr_add rfl (by omega) (w := ?_)
        refine qr_al rfl rfl (w := ?_)
        refine qr_gr rfl kd_176 (hr := (rf_8_9 h)) (w := ?_)
        refine qr_il rfl rfl (w := ?_)
        refine qr_ia rfl kd_183 (by omega) (w := ?_)
        rw [a1]
        refine qr_ias rfl kd_177 (by omega) (w := ?_)
        refine qr_al rfl rfl (w := ?_)
        refine qr_gr rfl kd_176 (hr := (rf_8_0 h)) (w := ?_)
        refine qr_const rfl (w := ?_)
        refine qr_const rfl (w := ?_)
        refine qr_il rfl rfl (w := ?_)
        refine qr_mul rfl (by omega) (w := ?_)
        refine qr_add rfl (by omega) (w := ?_)
        refine qr_const rfl (w := ?_)
        refine qr_add rfl (by omega) (w := ?_)
        refine qr_il rfl rfl (w := ?_)
        refine qr_ias rfl kd_177 (by omega) (w := ?_)
        refine qr_al rfl rfl (w := ?_)
        refine qr_gr rfl kd_176 (hr := (rf_8_0 h)) (w := ?_)
        refine qr_const rfl (w := ?_)
        refine qr_dup2 rfl (w := ?_)
        refine qr_ia rfl kd_177 (by omega) (w := ?_)
        rw [show (qup (qup m 177 (4 + 2 * (N : Int)) (qLe P f)) 177 (4 + 2 * (N : Int) + 1) (qOu P f)) 177 1 = N from (qup_i (by omega)).trans ((qup_i (by omega)).trans b1)]
        refine qr_const rfl (w := ?_)
        refine qr_add rfl (by omega) (w := ?_)
        refine qr_ias rfl kd_177 (by omega) (w := ?_)
        have h60' : N < 60 := by omega
        subst hfN
        refine KR _ _ (qG_tr (qG_up (Or.inl rfl)) (qG_tr (qG_up (Or.inl rfl)) (qG_up (Or.inl rfl)))) (funext (fun j => (qup_z (by decide)).trans ((qup_z (by decide)).trans (qup_z (by decide))))) (by
          rw [s2']
          refine qMb_pn hB hl (by omega) (by omega) (fun j g0 g1 g2 g3 g4 => (qup_i (by omega)).trans ((qup_i (by omega)).trans (qup_i (by omega)))) qup_s ?_ ?_
          · exact (qup_i (by omega)).trans ((qup_i (by omega)).trans qup_s)
          · exact (qup_i (by omega)).trans qup_s) (by rw [s2']; omega)
      · refine qr_const rfl (w := ?_)
        exact qW_zreturn rfl (Or.inl rfl) ⟨m, rfl, qG_rf, Or.inr ⟨rfl, by omega⟩⟩
    refine qr_il rfl rfl (w := ?_)
    refine qr_al rfl rfl (w := ?_)
    refine qr_gi rfl kd_176 (w := ?_)
    refine qr_icge rfl (fun hc => absurd hc (by omega)) (fun hc => ?_)
    refine qr_al rfl rfl (w := ?_)
    refine qr_gr rfl kd_176 (hr := (rf_8_10 h)) (w := ?_)
    refine qr_il rfl rfl (w := ?_)
    refine qr_ia rfl kd_184 (by omega) (w := ?_)
    refine qr_const rfl (w := ?_)
    refine qr_icne rfl (fun hcf => ?_) (fun hcf => ?_)
    · refine qr_al rfl rfl (w := ?_)
      refine qr_gr rfl kd_176 (hr := (rf_8_17 h)) (w := ?_)
      refine qr_al rfl rfl (w := ?_)
      refine qr_gr rfl kd_176 (hr := (rf_8_10 h)) (w := ?_)
      obtain ⟨j, hjj⟩ : ∃ j : Nat, m 184 k = j := ⟨(m 184 k).toNat, by omega⟩
      have hjk : j < k := by omega
      refine qr_il rfl rfl (w := ?_)
      refine qr_ia rfl kd_184 (by omega) (w := ?_)
      rw [hjj]
      refine qr_ia rfl kd_187 (by omega) (w := ?_)
      have hx0 := hin0 j hjk
      refine qr_const rfl (w := ?_)
      refine qr_rem rfl (by omega) (w := ?_)
      rw [hin j hjj hjk]
      refine qr_is2 rfl (w := ?_)
      exact KP _
    · refine qr_const rfl (w := ?_)
      refine qr_goto rfl (w := ?_)
      refine qr_is2 rfl (w := ?_)
      have e9 : qOu P f = -9 := by omega
      rw [← e9]
      exact KP _
