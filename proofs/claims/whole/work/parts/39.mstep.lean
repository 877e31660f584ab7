/-! The reference's reading: its small steps -/
variable {m : Nat → Int → Int} {r : Nat → Int → Option Nat}
def qStd (g1 g2 : Int → Int) (c e : Int) : Nat → Bool
  | 0 => false
  | k + 1 => qStd g1 g2 c e k || (decide (g1 k = c) && decide (g2 k = e))
theorem qStd_iff (g1 g2 : Int → Int) (c e : Int) : ∀ n : Nat, qStd g1 g2 c e n = true ↔ ∃ k : Nat, k < n ∧ g1 k = c ∧ g2 k = e := by
  intro n
  induction n with
  | zero => simp [qStd]
  | succ n ih =>
    simp only [qStd, Bool.or_eq_true, Bool.and_eq_true, decide_eq_true_eq]
    rw [ih]
    constructor
    · rintro (⟨k, h1, h2⟩ | h)
      · exact ⟨k, by omega, h2⟩
      · exact ⟨n, by omega, h⟩
    · rintro ⟨k, h1, h2⟩
      by_cases e : k = n
      · subst e
        exact Or.inr h2
      · exact Or.inl ⟨k, by omega, h2⟩
def qVl (g : Int → Int) : Nat → List Int
  | 0 => []
  | k + 1 => qVl g k ++ (if g k = -9 then [] else [g k])
theorem qVl_le (g : Int → Int) : ∀ n, (qVl g n).length ≤ n := by
  intro n
  induction n with
  | zero => exact Nat.le_refl _
  | succ n ih =>
    simp only [qVl]
    rw [List.length_append]
    split <;> simp only [List.length_cons, List.length_nil] <;> omega
theorem qVl_eq {g g' : Int → Int} : ∀ n : Nat, (∀ k : Nat, k < n → g' k = g k) → qVl g' n = qVl g n := by
  intro n
  induction n with
  | zero => intro _; rfl
  | succ n ih =>
    intro h
    simp only [qVl]
    rw [ih (fun k hk => h k (by omega)), h n (by omega)]
theorem mStands_loop (h : qE r) {f : Nat} {d c : Int} (hf : m 176 12 = f) (hf40 : f ≤ 40) (hd : m 176 14 = d) (hd4 : 0 ≤ d ∧ d ≤ 4) : ∀ (n i : Nat), i + n = f → qP2 m_Mo_stands 4 [qK 176, qI c, qI (qbi (qStd (m 183) (m 184) c (m 186 d) i)), qI i] (qT0, m, r) (qI (qbi (qStd (m 183) (m 184) c (m 186 d) f))) := by
  intro n
  induction n with
  | zero =>
    intro i hi
    have e : i = f := by omega
    subst e
    unfold qP2
    refine qr_il rfl rfl (w := ?_)
    refine qr_al rfl rfl (w := ?_)
    refine qr_gi rfl kd_176 (w := ?_)
    refine qr_icge rfl (fun hc => ?_) (fun hc => absurd hc (by omega))
    refine qr_il rfl rfl (w := ?_)
    refine qW_zreturn rfl (by first | exact Or.inl rfl | exact Or.inr rfl | (simp only [qbi]; split <;> simp)) ?_
    exact ⟨rfl, rfl⟩
  | succ n ih =>
    intro i hi
    have h1 := ih (i + 1) (by omega)
    simp only [qStd] at h1
    unfold qP2
    refine qr_il rfl rfl (w := ?_)
    refine qr_al rfl rfl (w := ?_)
    refine qr_gi rfl kd_176 (w := ?_)
    refine qr_icge rfl (fun hc => absurd hc (by omega)) (fun hc => ?_)
    refine qr_il rfl rfl (w := ?_)
    refine qr_ifne rfl (fun hcf => ?_) (fun hcf => ?_)
    · refine qr_const rfl (w := ?_)
      refine qr_goto rfl (w := ?_)
      refine qr_is2 rfl (w := ?_)
      refine qr_inc3 rfl (by omega) (w := ?_)
      refine qr_goto rfl (w := ?_)
      cases hb : qStd (m 183) (m 184) c (m 186 d) i with
      | true =>
        rw [hb] at h1
        first
          | exact h1
          | (exfalso; rw [hb] at hcf; simp [qbi] at hcf; done)
          | (exfalso; rw [hb] at hc; simp [qbi] at hc; done)
      | false =>
        rw [hb] at h1
        first
          | (exfalso; rw [hb] at hcf; simp [qbi] at hcf; done)
          | (have e1 : m 183 i = c := by assumption
             have e2 : m 184 i = m 186 d := by assumption
             rw [decide_eq_true e1, decide_eq_true e2] at h1
             exact h1)
          | (have e1 : ¬ m 183 i = c := by assumption
             rw [decide_eq_false e1] at h1
             exact h1)
          | (have e2 : ¬ m 184 i = m 186 d := by assumption
             rw [decide_eq_false e2, Bool.and_false] at h1
             exact h1)
    · refine qr_al rfl rfl (w := ?_)
      refine qr_gr rfl kd_176 (hr := (rf_8_9 h)) (w := ?_)
      refine qr_il rfl rfl (w := ?_)
      refine qr_ia rfl kd_183 (by omega) (w := ?_)
      refine qr_il rfl rfl (w := ?_)
      refine qr_icne rfl (fun hcff => ?_) (fun hcff => ?_)
      · refine qr_const rfl (w := ?_)
        refine qr_is2 rfl (w := ?_)
        refine qr_inc3 rfl (by omega) (w := ?_)
        refine qr_goto rfl (w := ?_)
        cases hb : qStd (m 183) (m 184) c (m 186 d) i with
        | true =>
          rw [hb] at h1
          first
            | exact h1
            | (exfalso; rw [hb] at hcf; simp [qbi] at hcf; done)
            | (exfalso; rw [hb] at hc; simp [qbi] at hc; done)
        | false =>
          rw [hb] at h1
          first
            | (exfalso; rw [hb] at hcf; simp [qbi] at hcf; done)
            | (have e1 : m 183 i = c := by assumption
               have e2 : m 184 i = m 186 d := by assumption
               rw [decide_eq_true e1, decide_eq_true e2] at h1
               exact h1)
            | (have e1 : ¬ m 183 i = c := by assumption
               rw [decide_eq_false e1] at h1
               exact h1)
            | (have e2 : ¬ m 184 i = m 186 d := by assumption
               rw [decide_eq_false e2, Bool.and_false] at h1
               exact h1)
      · refine qr_al rfl rfl (w := ?_)
        refine qr_gr rfl kd_176 (hr := (rf_8_10 h)) (w := ?_)
        refine qr_il rfl rfl (w := ?_)
        refine qr_ia rfl kd_184 (by omega) (w := ?_)
        refine qr_al rfl rfl (w := ?_)
        refine qr_gr rfl kd_176 (hr := (rf_8_13 h)) (w := ?_)
        refine qr_al rfl rfl (w := ?_)
        refine qr_gi rfl kd_176 (w := ?_)
        rw [hd]
        refine qr_ia rfl kd_186 (by omega) (w := ?_)
        refine qr_icne rfl (fun hcfff => ?_) (fun hcfff => ?_)
        · refine qr_const rfl (w := ?_)
          refine qr_is2 rfl (w := ?_)
          refine qr_inc3 rfl (by omega) (w := ?_)
          refine qr_goto rfl (w := ?_)
          cases hb : qStd (m 183) (m 184) c (m 186 d) i with
          | true =>
            rw [hb] at h1
            first
              | exact h1
              | (exfalso; rw [hb] at hcf; simp [qbi] at hcf; done)
              | (exfalso; rw [hb] at hc; simp [qbi] at hc; done)
          | false =>
            rw [hb] at h1
            first
              | (exfalso; rw [hb] at hcf; simp [qbi] at hcf; done)
              | (have e1 : m 183 i = c := by assumption
                 have e2 : m 184 i = m 186 d := by assumption
                 rw [decide_eq_true e1, decide_eq_true e2] at h1
                 exact h1)
              | (have e1 : ¬ m 183 i = c := by assumption
                 rw [decide_eq_false e1] at h1
                 exact h1)
              | (have e2 : ¬ m 184 i = m 186 d := by assumption
                 rw [decide_eq_false e2, Bool.and_false] at h1
                 exact h1)
        · refine qr_const rfl (w := ?_)
          refine qr_goto rfl (w := ?_)
          refine qr_is2 rfl (w := ?_)
          refine qr_inc3 rfl (by omega) (w := ?_)
          refine qr_goto rfl (w := ?_)
          cases hb : qStd (m 183) (m 184) c (m 186 d) i with
          | true =>
            rw [hb] at h1
            first
              | exact h1
              | (exfalso; rw [hb] at hcf; simp [qbi] at hcf; done)
              | (exfalso; rw [hb] at hc; simp [qbi] at hc; done)
          | false =>
            rw [hb] at h1
            first
              | (exfalso; rw [hb] at hcf; simp [qbi] at hcf; done)
              | (have e1 : m 183 i = c := by assumption
                 have e2 : m 184 i = m 186 d := by assumption
                 rw [decide_eq_true e1, decide_eq_true e2] at h1
                 exact h1)
              | (have e1 : ¬ m 183 i = c := by assumption
                 rw [decide_eq_false e1] at h1
                 exact h1)
              | (have e2 : ¬ m 184 i = m 186 d := by assumption
                 rw [decide_eq_false e2, Bool.and_false] at h1
                 exact h1)
theorem mStands (h : qE r) {f : Nat} {d c : Int} (hf : m 176 12 = f) (hf40 : f ≤ 40) (hd : m 176 14 = d) (hd4 : 0 ≤ d ∧ d ≤ 4) : qP m_Mo_stands [qK 176, qI c, none, none] (qT0, m, r) (qI (qbi (qStd (m 183) (m 184) c (m 186 d) f))) := by
  refine qr_const rfl (w := ?_)
  refine qr_is2 rfl (w := ?_)
  refine qr_const rfl (w := ?_)
  refine qr_is3 rfl (w := ?_)
  exact mStands_loop h hf hf40 hd hd4 f 0 (by omega)
theorem mNumberMany_loop (h : qE r) {f : Nat} (hf : m 176 12 = (f : Int) + 1) (hf40 : f ≤ 39) : ∀ (n i : Nat), i + n = f → qP2 m_Mo_numberMany 4 [qK 176, qI (qVl (m 185) i).length, qI i] (qT0, m, r) (qI (qVl (m 185) f).length) := by
  intro n
  induction n with
  | zero =>
    intro i hi
    have e : i = f := by omega
    subst e
    unfold qP2
    refine qr_il rfl rfl (w := ?_)
    refine qr_al rfl rfl (w := ?_)
    refine qr_gi rfl kd_176 (w := ?_)
    refine qr_const rfl (w := ?_)
    refine qr_sub rfl (by omega) (w := ?_)
    refine qr_icge rfl (fun hc => ?_) (fun hc => absurd hc (by omega))
    refine qr_il rfl rfl (w := ?_)
    refine qW_ireturn rfl ?_
    exact ⟨rfl, rfl⟩
  | succ n ih =>
    intro i hi
    have h1 := ih (i + 1) (by omega)
    have hv := qVl_le (m 185) i
    have e2 : ((qVl (m 185) (i + 1)).length : Int) = (qVl (m 185) i).length + if m 185 i = -9 then 0 else 1 := by
      simp only [qVl]
      rw [List.length_append]
      split <;> simp
    rw [e2] at h1
    unfold qP2
    refine qr_il rfl rfl (w := ?_)
    refine qr_al rfl rfl (w := ?_)
    refine qr_gi rfl kd_176 (w := ?_)
    refine qr_const rfl (w := ?_)
    refine qr_sub rfl (by omega) (w := ?_)
    refine qr_icge rfl (fun hc => absurd hc (by omega)) (fun hc => ?_)
    refine qr_il rfl rfl (w := ?_)
    refine qr_al rfl rfl (w := ?_)
    refine qr_gr rfl kd_176 (hr := (rf_8_11 h)) (w := ?_)
    refine qr_il rfl rfl (w := ?_)
    refine qr_ia rfl kd_185 (by omega) (w := ?_)
    refine qr_const rfl (w := ?_)
    refine qr_iceq rfl (fun hcf => ?_) (fun hcf => ?_)
    · refine qr_const rfl (w := ?_)
      refine qr_add rfl (by omega) (w := ?_)
      refine qr_is1 rfl (w := ?_)
      refine qr_inc2 rfl (by omega) (w := ?_)
      refine qr_goto rfl (w := ?_)
      first
        | (rw [if_pos (by assumption)] at h1
           exact h1)
        | (rw [if_neg (by assumption)] at h1
           exact h1)
    · refine qr_const rfl (w := ?_)
      refine qr_goto rfl (w := ?_)
      refine qr_add rfl (by omega) (w := ?_)
      refine qr_is1 rfl (w := ?_)
      refine qr_inc2 rfl (by omega) (w := ?_)
      refine qr_goto rfl (w := ?_)
      first
        | (rw [if_pos (by assumption)] at h1
           exact h1)
        | (rw [if_neg (by assumption)] at h1
           exact h1)
theorem mNumberMany (h : qE r) {f : Nat} (hf : m 176 12 = (f : Int) + 1) (hf40 : f ≤ 39) : qP m_Mo_numberMany [qK 176, none, none] (qT0, m, r) (qI (qVl (m 185) f).length) := by
  refine qr_const rfl (w := ?_)
  refine qr_is1 rfl (w := ?_)
  refine qr_const rfl (w := ?_)
  refine qr_is2 rfl (w := ?_)
  exact mNumberMany_loop h hf hf40 f 0 (by omega)
abbrev qPl (f : Int) : Nat → Int → Prop := fun a j => ((a = 183 ∨ a = 184 ∨ a = 185) ∧ j = f) ∨ (a = 176 ∧ (j = 12 ∨ j = 16))
theorem mTakesLetter (h : qE r) {f : Nat} {d c : Int} (hf : m 176 12 = f) (hf40 : f < 40) (hd : m 176 14 = d) (hd4 : 0 ≤ d ∧ d ≤ 4) : qW m_Mo_takesLetter 0 [qK 176, qI c] [] (qT0, m, r) (fun _ σ => ∃ m', σ = (qT0, m', r) ∧ m' 183 f = c ∧ m' 184 f = m 186 d ∧ m' 185 f = -9 ∧ m' 176 12 = (f : Int) + 1 ∧ m' 176 16 = 3 ∧ qG (qPl f) m m') := by
  refine qr_al rfl rfl (w := ?_)
  refine qr_gr rfl kd_176 (hr := (rf_8_9 h)) (w := ?_)
  refine qr_al rfl rfl (w := ?_)
  refine qr_gi rfl kd_176 (w := ?_)
  rw [hf]
  refine qr_il rfl rfl (w := ?_)
  refine qr_ias rfl kd_183 (by omega) (w := ?_)
  refine qr_al rfl rfl (w := ?_)
  refine qr_gr rfl kd_176 (hr := (rf_8_10 h)) (w := ?_)
  refine qr_al rfl rfl (w := ?_)
  refine qr_gi rfl kd_176 (w := ?_)
  rw [show (qup m 183 f c) 176 12 = f from (qup_z (by decide)).trans hf]
  refine qr_al rfl rfl (w := ?_)
  refine qr_gr rfl kd_176 (hr := (rf_8_13 h)) (w := ?_)
  refine qr_al rfl rfl (w := ?_)
  refine qr_gi rfl kd_176 (w := ?_)
  rw [show (qup m 183 f c) 176 14 = d from (qup_z (by decide)).trans hd]
  refine qr_ia rfl kd_186 (by omega) (w := ?_)
  rw [show (qup m 183 f c) 186 d = m 186 d from qup_z (by decide)]
  refine qr_ias rfl kd_184 (by omega) (w := ?_)
  refine qr_al rfl rfl (w := ?_)
  refine qr_gr rfl kd_176 (hr := (rf_8_11 h)) (w := ?_)
  refine qr_al rfl rfl (w := ?_)
  refine qr_gi rfl kd_176 (w := ?_)
  rw [show (qup (qup m 183 f c) 184 f (m 186 d)) 176 12 = f from (qup_z (by decide)).trans ((qup_z (by decide)).trans hf)]
  refine qr_const rfl (w := ?_)
  refine qr_ias rfl kd_185 (by omega) (w := ?_)
  refine qr_al rfl rfl (w := ?_)
  refine qr_dup rfl (w := ?_)
  refine qr_gi rfl kd_176 (w := ?_)
  rw [show (qup (qup (qup m 183 f c) 184 f (m 186 d)) 185 f (-9)) 176 12 = f from (qup_z (by decide)).trans ((qup_z (by decide)).trans ((qup_z (by decide)).trans hf))]
  refine qr_const rfl (w := ?_)
  refine qr_add rfl (by omega) (w := ?_)
  refine qr_pi rfl kd_176 (w := ?_)
  refine qr_al rfl rfl (w := ?_)
  refine qr_const rfl (w := ?_)
  refine qr_pi rfl kd_176 (w := ?_)
  refine qW_return rfl ?_
  refine ⟨_, rfl, ?_, ?_, ?_, ?_, qup_s, ?_⟩
  · simp [qup]
  · simp [qup]
  · simp [qup]
  · simp [qup]
  · exact qG_tr (qG_up (Or.inl ⟨Or.inl rfl, rfl⟩)) (qG_tr (qG_up (Or.inl ⟨Or.inr (Or.inl rfl), rfl⟩)) (qG_tr (qG_up (Or.inl ⟨Or.inr (Or.inr rfl), rfl⟩)) (qG_tr (qG_up (Or.inr ⟨rfl, Or.inl rfl⟩)) (qG_up (Or.inr ⟨rfl, Or.inr rfl⟩)))))
abbrev qPs (d : Int) : Nat → Int → Prop := fun a j => (a = 186 ∧ j = d + 1) ∨ (a = 176 ∧ (j = 14 ∨ j = 16))
theorem mSign_open (h : qE r) {f : Nat} {c d ms : Int} (hf : m 176 12 = f) (hf40 : f ≤ 40) (hd : m 176 14 = d) (hs : m 176 16 = ms) (hc : c = 123) (hd4 : 0 ≤ d ∧ d < 4) (hm : ms = 0 ∨ (ms = 4 ∧ 1 ≤ f)) : qW m_Mo_takesSign 0 [qK 176, qI c, none] [] (qT0, m, r) (fun x σ => ∃ m', σ = (qT0, m', r) ∧ x = qI 1 ∧ m' 176 14 = d + 1 ∧ m' 186 (d + 1) = (if ms = 0 then -9 else (f : Int) - 1) ∧ m' 176 16 = 1 ∧ qG (qPs d) m m') := by
  refine qr_il rfl rfl (w := ?_)
  refine qr_const rfl (w := ?_)
  refine qr_icne rfl (fun hc => absurd hc (by omega)) (fun hc => ?_)
  refine qr_al rfl rfl (w := ?_)
  refine qr_gi rfl kd_176 (w := ?_)
  refine qr_ifeq rfl (fun hcf => ?_) (fun hcf => ?_)
  · refine qr_al rfl rfl (w := ?_)
    refine qr_dup rfl (w := ?_)
    refine qr_gi rfl kd_176 (w := ?_)
    rw [hd]
    refine qr_const rfl (w := ?_)
    refine qr_add rfl (by omega) (w := ?_)
    refine qr_pi rfl kd_176 (w := ?_)
    refine qr_al rfl rfl (w := ?_)
    refine qr_gr rfl kd_176 (hr := (rf_8_13 h)) (w := ?_)
    refine qr_al rfl rfl (w := ?_)
    refine qr_gi rfl kd_176 (w := ?_)
    rw [show (qup m 176 14 (d + 1)) 176 14 = d + 1 from qup_s]
    refine qr_al rfl rfl (w := ?_)
    refine qr_gi rfl kd_176 (w := ?_)
    rw [show (qup m 176 14 (d + 1)) 176 16 = ms from (qup_i (by decide)).trans hs]
    refine qr_ifne rfl (fun hc => ?_) (fun hc => ?_)
    · refine qr_al rfl rfl (w := ?_)
      refine qr_gi rfl kd_176 (w := ?_)
      rw [show (qup m 176 14 (d + 1)) 176 12 = f from (qup_i (by decide)).trans hf]
      refine qr_const rfl (w := ?_)
      refine qr_sub rfl (by omega) (w := ?_)
      refine qr_ias rfl kd_186 (by omega) (w := ?_)
      refine qr_al rfl rfl (w := ?_)
      refine qr_const rfl (w := ?_)
      refine qr_pi rfl kd_176 (w := ?_)
      refine qr_const rfl (w := ?_)
      refine qW_zreturn rfl (Or.inr rfl) ?_
      refine ⟨_, rfl, rfl, ?_, ?_, qup_s, qG_tr (qG_up (Or.inr ⟨rfl, Or.inl rfl⟩)) (qG_tr (qG_up (Or.inl ⟨rfl, rfl⟩)) (qG_up (Or.inr ⟨rfl, Or.inr rfl⟩)))⟩
      · simp [qup]
      · rw [qup_z (by decide), qup_s]
        first
          | (rw [if_pos (by omega)]; done)
          | (rw [if_neg (by omega)]; done)
    · refine qr_const rfl (w := ?_)
      refine qr_goto rfl (w := ?_)
      refine qr_ias rfl kd_186 (by omega) (w := ?_)
      refine qr_al rfl rfl (w := ?_)
      refine qr_const rfl (w := ?_)
      refine qr_pi rfl kd_176 (w := ?_)
      refine qr_const rfl (w := ?_)
      refine qW_zreturn rfl (Or.inr rfl) ?_
      refine ⟨_, rfl, rfl, ?_, ?_, qup_s, qG_tr (qG_up (Or.inr ⟨rfl, Or.inl rfl⟩)) (qG_tr (qG_up (Or.inl ⟨rfl, rfl⟩)) (qG_up (Or.inr ⟨rfl, Or.inr rfl⟩)))⟩
      · simp [qup]
      · rw [qup_z (by decide), qup_s]
        first
          | (rw [if_pos (by omega)]; done)
          | (rw [if_neg (by omega)]; done)
  · refine qr_al rfl rfl (w := ?_)
    refine qr_gi rfl kd_176 (w := ?_)
    refine qr_const rfl (w := ?_)
    refine qr_icne rfl (fun hcff => ?_) (fun hcff => ?_)
    · exfalso
      omega
    · refine qr_al rfl rfl (w := ?_)
      refine qr_gi rfl kd_176 (w := ?_)
      refine qr_const rfl (w := ?_)
      refine qr_icge rfl (fun hcfff => ?_) (fun hcfff => ?_)
      · exfalso
        omega
      · refine qr_al rfl rfl (w := ?_)
        refine qr_dup rfl (w := ?_)
        refine qr_gi rfl kd_176 (w := ?_)
        rw [hd]
        refine qr_const rfl (w := ?_)
        refine qr_add rfl (by omega) (w := ?_)
        refine qr_pi rfl kd_176 (w := ?_)
        refine qr_al rfl rfl (w := ?_)
        refine qr_gr rfl kd_176 (hr := (rf_8_13 h)) (w := ?_)
        refine qr_al rfl rfl (w := ?_)
        refine qr_gi rfl kd_176 (w := ?_)
        rw [show (qup m 176 14 (d + 1)) 176 14 = d + 1 from qup_s]
        refine qr_al rfl rfl (w := ?_)
        refine qr_gi rfl kd_176 (w := ?_)
        rw [show (qup m 176 14 (d + 1)) 176 16 = ms from (qup_i (by decide)).trans hs]
        refine qr_ifne rfl (fun hc => ?_) (fun hc => ?_)
        · refine qr_al rfl rfl (w := ?_)
          refine qr_gi rfl kd_176 (w := ?_)
          rw [show (qup m 176 14 (d + 1)) 176 12 = f from (qup_i (by decide)).trans hf]
          refine qr_const rfl (w := ?_)
          refine qr_sub rfl (by omega) (w := ?_)
          refine qr_ias rfl kd_186 (by omega) (w := ?_)
          refine qr_al rfl rfl (w := ?_)
          refine qr_const rfl (w := ?_)
          refine qr_pi rfl kd_176 (w := ?_)
          refine qr_const rfl (w := ?_)
          refine qW_zreturn rfl (Or.inr rfl) ?_
          refine ⟨_, rfl, rfl, ?_, ?_, qup_s, qG_tr (qG_up (Or.inr ⟨rfl, Or.inl rfl⟩)) (qG_tr (qG_up (Or.inl ⟨rfl, rfl⟩)) (qG_up (Or.inr ⟨rfl, Or.inr rfl⟩)))⟩
          · simp [qup]
          · rw [qup_z (by decide), qup_s]
            first
              | (rw [if_pos (by omega)]; done)
              | (rw [if_neg (by omega)]; done)
        · refine qr_const rfl (w := ?_)
          refine qr_goto rfl (w := ?_)
          refine qr_ias rfl kd_186 (by omega) (w := ?_)
          refine qr_al rfl rfl (w := ?_)
          refine qr_const rfl (w := ?_)
          refine qr_pi rfl kd_176 (w := ?_)
          refine qr_const rfl (w := ?_)
          refine qW_zreturn rfl (Or.inr rfl) ?_
          refine ⟨_, rfl, rfl, ?_, ?_, qup_s, qG_tr (qG_up (Or.inr ⟨rfl, Or.inl rfl⟩)) (qG_tr (qG_up (Or.inl ⟨rfl, rfl⟩)) (qG_up (Or.inr ⟨rfl, Or.inr rfl⟩)))⟩
          · simp [qup]
          · rw [qup_z (by decide), qup_s]
            first
              | (rw [if_pos (by omega)]; done)
              | (rw [if_neg (by omega)]; done)
theorem mSign_close (h : qE r) {f : Nat} {c d ms : Int} (hf : m 176 12 = f) (hf40 : f ≤ 40) (hd : m 176 14 = d) (hs : m 176 16 = ms) (hc : c = 125) (hd4 : 1 ≤ d ∧ d ≤ 4) (hm : ms = 1 ∨ ms = 5) : qW m_Mo_takesSign 0 [qK 176, qI c, none] [] (qT0, m, r) (fun x σ => ∃ m', σ = (qT0, m', r) ∧ x = qI 1 ∧ m' 176 14 = d - 1 ∧ m' 176 16 = (if d - 1 = 0 then 6 else 5) ∧ qG (qPs d) m m') := by
  refine qr_il rfl rfl (w := ?_)
  refine qr_const rfl (w := ?_)
  refine qr_icne rfl (fun hc => ?_) (fun hc => absurd hc (by omega))
  refine qr_il rfl rfl (w := ?_)
  refine qr_const rfl (w := ?_)
  refine qr_icne rfl (fun hct => absurd hct (by omega)) (fun hct => ?_)
  refine qr_al rfl rfl (w := ?_)
  refine qr_gi rfl kd_176 (w := ?_)
  refine qr_const rfl (w := ?_)
  refine qr_iceq rfl (fun hctf => ?_) (fun hctf => ?_)
  · refine qr_al rfl rfl (w := ?_)
    refine qr_dup rfl (w := ?_)
    refine qr_gi rfl kd_176 (w := ?_)
    rw [hd]
    refine qr_const rfl (w := ?_)
    refine qr_sub rfl (by omega) (w := ?_)
    refine qr_pi rfl kd_176 (w := ?_)
    refine qr_al rfl rfl (w := ?_)
    refine qr_al rfl rfl (w := ?_)
    refine qr_gi rfl kd_176 (w := ?_)
    rw [show (qup m 176 14 (d - 1)) 176 14 = d - 1 from qup_s]
    refine qr_ifne rfl (fun hc => ?_) (fun hc => ?_)
    · refine qr_const rfl (w := ?_)
      refine qr_pi rfl kd_176 (w := ?_)
      refine qr_const rfl (w := ?_)
      refine qW_zreturn rfl (Or.inr rfl) ?_
      refine ⟨_, rfl, rfl, ?_, ?_, qG_tr (qG_up (Or.inr ⟨rfl, Or.inl rfl⟩)) (qG_up (Or.inr ⟨rfl, Or.inr rfl⟩))⟩
      · simp [qup]
      · rw [qup_s]
        first
          | (rw [if_pos (by assumption)]; done)
          | (rw [if_neg (by assumption)]; done)
    · refine qr_const rfl (w := ?_)
      refine qr_goto rfl (w := ?_)
      refine qr_pi rfl kd_176 (w := ?_)
      refine qr_const rfl (w := ?_)
      refine qW_zreturn rfl (Or.inr rfl) ?_
      refine ⟨_, rfl, rfl, ?_, ?_, qG_tr (qG_up (Or.inr ⟨rfl, Or.inl rfl⟩)) (qG_up (Or.inr ⟨rfl, Or.inr rfl⟩))⟩
      · simp [qup]
      · rw [qup_s]
        first
          | (rw [if_pos (by assumption)]; done)
          | (rw [if_neg (by assumption)]; done)
  · refine qr_al rfl rfl (w := ?_)
    refine qr_gi rfl kd_176 (w := ?_)
    refine qr_const rfl (w := ?_)
    refine qr_icne rfl (fun hctff => ?_) (fun hctff => ?_)
    · exfalso
      omega
    · refine qr_al rfl rfl (w := ?_)
      refine qr_dup rfl (w := ?_)
      refine qr_gi rfl kd_176 (w := ?_)
      rw [hd]
      refine qr_const rfl (w := ?_)
      refine qr_sub rfl (by omega) (w := ?_)
      refine qr_pi rfl kd_176 (w := ?_)
      refine qr_al rfl rfl (w := ?_)
      refine qr_al rfl rfl (w := ?_)
      refine qr_gi rfl kd_176 (w := ?_)
      rw [show (qup m 176 14 (d - 1)) 176 14 = d - 1 from qup_s]
      refine qr_ifne rfl (fun hc => ?_) (fun hc => ?_)
      · refine qr_const rfl (w := ?_)
        refine qr_pi rfl kd_176 (w := ?_)
        refine qr_const rfl (w := ?_)
        refine qW_zreturn rfl (Or.inr rfl) ?_
        refine ⟨_, rfl, rfl, ?_, ?_, qG_tr (qG_up (Or.inr ⟨rfl, Or.inl rfl⟩)) (qG_up (Or.inr ⟨rfl, Or.inr rfl⟩))⟩
        · simp [qup]
        · rw [qup_s]
          first
            | (rw [if_pos (by assumption)]; done)
            | (rw [if_neg (by assumption)]; done)
      · refine qr_const rfl (w := ?_)
        refine qr_goto rfl (w := ?_)
        refine qr_pi rfl kd_176 (w := ?_)
        refine qr_const rfl (w := ?_)
        refine qW_zreturn rfl (Or.inr rfl) ?_
        refine ⟨_, rfl, rfl, ?_, ?_, qG_tr (qG_up (Or.inr ⟨rfl, Or.inl rfl⟩)) (qG_up (Or.inr ⟨rfl, Or.inr rfl⟩))⟩
        · simp [qup]
        · rw [qup_s]
          first
            | (rw [if_pos (by assumption)]; done)
            | (rw [if_neg (by assumption)]; done)
theorem mSign_comma (h : qE r) {f : Nat} {c d ms : Int} (hf : m 176 12 = f) (hf40 : f ≤ 40) (hd : m 176 14 = d) (hs : m 176 16 = ms) (hc : c = 44) (hm : ms = 5) : qW m_Mo_takesSign 0 [qK 176, qI c, none] [] (qT0, m, r) (fun x σ => ∃ m', σ = (qT0, m', r) ∧ x = qI 1 ∧ m' 176 16 = 2 ∧ qG (fun a j => a = 176 ∧ j = 16) m m') := by
  refine qr_il rfl rfl (w := ?_)
  refine qr_const rfl (w := ?_)
  refine qr_icne rfl (fun hc => ?_) (fun hc => absurd hc (by omega))
  refine qr_il rfl rfl (w := ?_)
  refine qr_const rfl (w := ?_)
  refine qr_icne rfl (fun hct => ?_) (fun hct => absurd hct (by omega))
  refine qr_il rfl rfl (w := ?_)
  refine qr_const rfl (w := ?_)
  refine qr_icne rfl (fun hctt => absurd hctt (by omega)) (fun hctt => ?_)
  refine qr_al rfl rfl (w := ?_)
  refine qr_gi rfl kd_176 (w := ?_)
  refine qr_const rfl (w := ?_)
  refine qr_iceq rfl (fun hcttf => ?_) (fun hcttf => absurd hcttf (by omega))
  refine qr_const rfl (w := ?_)
  refine qr_goto rfl (w := ?_)
  refine qr_is2 rfl (w := ?_)
  refine qr_al rfl rfl (w := ?_)
  refine qr_il rfl rfl (w := ?_)
  refine qr_ifeq rfl (fun hcttft => absurd hcttft (by omega)) (fun hcttft => ?_)
  refine qr_il rfl rfl (w := ?_)
  refine qr_const rfl (w := ?_)
  refine qr_icne rfl (fun hcttftf => absurd hcttftf (by omega)) (fun hcttftf => ?_)
  refine qr_const rfl (w := ?_)
  refine qr_goto rfl (w := ?_)
  refine qr_pi rfl kd_176 (w := ?_)
  refine qr_il rfl rfl (w := ?_)
  refine qW_zreturn rfl (Or.inr rfl) ⟨_, rfl, rfl, qup_s, qG_up ⟨rfl, rfl⟩⟩
theorem mSign_colon (h : qE r) {f : Nat} {c d ms : Int} (hf : m 176 12 = f) (hf40 : f ≤ 40) (hd : m 176 14 = d) (hs : m 176 16 = ms) (hc : c = 58) (hm : ms = 3) : qW m_Mo_takesSign 0 [qK 176, qI c, none] [] (qT0, m, r) (fun x σ => ∃ m', σ = (qT0, m', r) ∧ x = qI 1 ∧ m' 176 16 = 4 ∧ qG (fun a j => a = 176 ∧ j = 16) m m') := by
  refine qr_il rfl rfl (w := ?_)
  refine qr_const rfl (w := ?_)
  refine qr_icne rfl (fun hc => ?_) (fun hc => absurd hc (by omega))
  refine qr_il rfl rfl (w := ?_)
  refine qr_const rfl (w := ?_)
  refine qr_icne rfl (fun hct => ?_) (fun hct => absurd hct (by omega))
  refine qr_il rfl rfl (w := ?_)
  refine qr_const rfl (w := ?_)
  refine qr_icne rfl (fun hctt => ?_) (fun hctt => absurd hctt (by omega))
  refine qr_il rfl rfl (w := ?_)
  refine qr_const rfl (w := ?_)
  refine qr_icne rfl (fun hcttt => absurd hcttt (by omega)) (fun hcttt => ?_)
  refine qr_al rfl rfl (w := ?_)
  refine qr_gi rfl kd_176 (w := ?_)
  refine qr_const rfl (w := ?_)
  refine qr_icne rfl (fun hctttf => absurd hctttf (by omega)) (fun hctttf => ?_)
  refine qr_const rfl (w := ?_)
  refine qr_goto rfl (w := ?_)
  refine qr_is2 rfl (w := ?_)
  refine qr_al rfl rfl (w := ?_)
  refine qr_il rfl rfl (w := ?_)
  refine qr_ifeq rfl (fun hctttff => absurd hctttff (by omega)) (fun hctttff => ?_)
  refine qr_il rfl rfl (w := ?_)
  refine qr_const rfl (w := ?_)
  refine qr_icne rfl (fun hctttfff => ?_) (fun hctttfff => absurd hctttfff (by omega))
  refine qr_const rfl (w := ?_)
  refine qr_goto rfl (w := ?_)
  refine qr_pi rfl kd_176 (w := ?_)
  refine qr_il rfl rfl (w := ?_)
  refine qW_zreturn rfl (Or.inr rfl) ⟨_, rfl, rfl, qup_s, qG_up ⟨rfl, rfl⟩⟩
theorem mSign_none (h : qE r) {f : Nat} {c d ms : Int} (hf : m 176 12 = f) (hf40 : f ≤ 40) (hd : m 176 14 = d) (hs : m 176 16 = ms) (h1 : ¬ (c = 123 ∧ (ms = 0 ∨ (ms = 4 ∧ d < 4)))) (h2 : ¬ (c = 125 ∧ (ms = 1 ∨ ms = 5))) (h3 : ¬ (c = 44 ∧ ms = 5)) (h4 : ¬ (c = 58 ∧ ms = 3)) : qW m_Mo_takesSign 0 [qK 176, qI c, none] [] (qT0, m, r) (fun x σ => ∃ m', σ = (qT0, m', r) ∧ x = qI 0 ∧ qG (fun a j => a = 176 ∧ j = 16) m m') := by
  refine qr_il rfl rfl (w := ?_)
  refine qr_const rfl (w := ?_)
  refine qr_icne rfl (fun hc => ?_) (fun hc => ?_)
  · refine qr_il rfl rfl (w := ?_)
    refine qr_const rfl (w := ?_)
    refine qr_icne rfl (fun hct => ?_) (fun hct => ?_)
    · refine qr_il rfl rfl (w := ?_)
      refine qr_const rfl (w := ?_)
      refine qr_icne rfl (fun hctt => ?_) (fun hctt => ?_)
      · refine qr_il rfl rfl (w := ?_)
        refine qr_const rfl (w := ?_)
        refine qr_icne rfl (fun hcttt => ?_) (fun hcttt => ?_)
        · refine qr_const rfl (w := ?_)
          refine qr_is2 rfl (w := ?_)
          refine qr_al rfl rfl (w := ?_)
          refine qr_il rfl rfl (w := ?_)
          refine qr_ifeq rfl (fun _ => ?_) (fun e => absurd rfl e)
          refine qr_al rfl rfl (w := ?_)
          refine qr_gi rfl kd_176 (w := ?_)
          refine qr_pi rfl kd_176 (w := ?_)
          refine qr_il rfl rfl (w := ?_)
          exact qW_zreturn rfl (Or.inl rfl) ⟨_, rfl, rfl, qG_up ⟨rfl, rfl⟩⟩
        · refine qr_al rfl rfl (w := ?_)
          refine qr_gi rfl kd_176 (w := ?_)
          refine qr_const rfl (w := ?_)
          refine qr_icne rfl (fun hctttf => ?_) (fun hctttf => ?_)
          · refine qr_const rfl (w := ?_)
            refine qr_is2 rfl (w := ?_)
            refine qr_al rfl rfl (w := ?_)
            refine qr_il rfl rfl (w := ?_)
            refine qr_ifeq rfl (fun _ => ?_) (fun e => absurd rfl e)
            refine qr_al rfl rfl (w := ?_)
            refine qr_gi rfl kd_176 (w := ?_)
            refine qr_pi rfl kd_176 (w := ?_)
            refine qr_il rfl rfl (w := ?_)
            exact qW_zreturn rfl (Or.inl rfl) ⟨_, rfl, rfl, qG_up ⟨rfl, rfl⟩⟩
          · exfalso
            omega
      · refine qr_al rfl rfl (w := ?_)
        refine qr_gi rfl kd_176 (w := ?_)
        refine qr_const rfl (w := ?_)
        refine qr_iceq rfl (fun hcttf => ?_) (fun hcttf => ?_)
        · exfalso
          omega
        · refine qr_il rfl rfl (w := ?_)
          refine qr_const rfl (w := ?_)
          refine qr_icne rfl (fun hcttff => ?_) (fun hcttff => ?_)
          · refine qr_const rfl (w := ?_)
            refine qr_is2 rfl (w := ?_)
            refine qr_al rfl rfl (w := ?_)
            refine qr_il rfl rfl (w := ?_)
            refine qr_ifeq rfl (fun _ => ?_) (fun e => absurd rfl e)
            refine qr_al rfl rfl (w := ?_)
            refine qr_gi rfl kd_176 (w := ?_)
            refine qr_pi rfl kd_176 (w := ?_)
            refine qr_il rfl rfl (w := ?_)
            exact qW_zreturn rfl (Or.inl rfl) ⟨_, rfl, rfl, qG_up ⟨rfl, rfl⟩⟩
          · refine qr_al rfl rfl (w := ?_)
            refine qr_gi rfl kd_176 (w := ?_)
            refine qr_const rfl (w := ?_)
            refine qr_icne rfl (fun hcttfff => ?_) (fun hcttfff => ?_)
            · refine qr_const rfl (w := ?_)
              refine qr_is2 rfl (w := ?_)
              refine qr_al rfl rfl (w := ?_)
              refine qr_il rfl rfl (w := ?_)
              refine qr_ifeq rfl (fun _ => ?_) (fun e => absurd rfl e)
              refine qr_al rfl rfl (w := ?_)
              refine qr_gi rfl kd_176 (w := ?_)
              refine qr_pi rfl kd_176 (w := ?_)
              refine qr_il rfl rfl (w := ?_)
              exact qW_zreturn rfl (Or.inl rfl) ⟨_, rfl, rfl, qG_up ⟨rfl, rfl⟩⟩
            · exfalso
              omega
    · refine qr_al rfl rfl (w := ?_)
      refine qr_gi rfl kd_176 (w := ?_)
      refine qr_const rfl (w := ?_)
      refine qr_iceq rfl (fun hctf => ?_) (fun hctf => ?_)
      · exfalso
        omega
      · refine qr_al rfl rfl (w := ?_)
        refine qr_gi rfl kd_176 (w := ?_)
        refine qr_const rfl (w := ?_)
        refine qr_icne rfl (fun hctff => ?_) (fun hctff => ?_)
        · refine qr_il rfl rfl (w := ?_)
          refine qr_const rfl (w := ?_)
          refine qr_icne rfl (fun hctfft => ?_) (fun hctfft => ?_)
          · refine qr_il rfl rfl (w := ?_)
            refine qr_const rfl (w := ?_)
            refine qr_icne rfl (fun hctfftt => ?_) (fun hctfftt => ?_)
            · refine qr_const rfl (w := ?_)
              refine qr_is2 rfl (w := ?_)
              refine qr_al rfl rfl (w := ?_)
              refine qr_il rfl rfl (w := ?_)
              refine qr_ifeq rfl (fun _ => ?_) (fun e => absurd rfl e)
              refine qr_al rfl rfl (w := ?_)
              refine qr_gi rfl kd_176 (w := ?_)
              refine qr_pi rfl kd_176 (w := ?_)
              refine qr_il rfl rfl (w := ?_)
              exact qW_zreturn rfl (Or.inl rfl) ⟨_, rfl, rfl, qG_up ⟨rfl, rfl⟩⟩
            · refine qr_al rfl rfl (w := ?_)
              refine qr_gi rfl kd_176 (w := ?_)
              refine qr_const rfl (w := ?_)
              refine qr_icne rfl (fun hctffttf => ?_) (fun hctffttf => ?_)
              · refine qr_const rfl (w := ?_)
                refine qr_is2 rfl (w := ?_)
                refine qr_al rfl rfl (w := ?_)
                refine qr_il rfl rfl (w := ?_)
                refine qr_ifeq rfl (fun _ => ?_) (fun e => absurd rfl e)
                refine qr_al rfl rfl (w := ?_)
                refine qr_gi rfl kd_176 (w := ?_)
                refine qr_pi rfl kd_176 (w := ?_)
                refine qr_il rfl rfl (w := ?_)
                exact qW_zreturn rfl (Or.inl rfl) ⟨_, rfl, rfl, qG_up ⟨rfl, rfl⟩⟩
              · exfalso
                omega
          · refine qr_al rfl rfl (w := ?_)
            refine qr_gi rfl kd_176 (w := ?_)
            refine qr_const rfl (w := ?_)
            refine qr_iceq rfl (fun hctfftf => ?_) (fun hctfftf => ?_)
            · exfalso
              omega
            · refine qr_il rfl rfl (w := ?_)
              refine qr_const rfl (w := ?_)
              refine qr_icne rfl (fun hctfftff => ?_) (fun hctfftff => ?_)
              · refine qr_const rfl (w := ?_)
                refine qr_is2 rfl (w := ?_)
                refine qr_al rfl rfl (w := ?_)
                refine qr_il rfl rfl (w := ?_)
                refine qr_ifeq rfl (fun _ => ?_) (fun e => absurd rfl e)
                refine qr_al rfl rfl (w := ?_)
                refine qr_gi rfl kd_176 (w := ?_)
                refine qr_pi rfl kd_176 (w := ?_)
                refine qr_il rfl rfl (w := ?_)
                exact qW_zreturn rfl (Or.inl rfl) ⟨_, rfl, rfl, qG_up ⟨rfl, rfl⟩⟩
              · refine qr_al rfl rfl (w := ?_)
                refine qr_gi rfl kd_176 (w := ?_)
                refine qr_const rfl (w := ?_)
                refine qr_icne rfl (fun hctfftfff => ?_) (fun hctfftfff => ?_)
                · refine qr_const rfl (w := ?_)
                  refine qr_is2 rfl (w := ?_)
                  refine qr_al rfl rfl (w := ?_)
                  refine qr_il rfl rfl (w := ?_)
                  refine qr_ifeq rfl (fun _ => ?_) (fun e => absurd rfl e)
                  refine qr_al rfl rfl (w := ?_)
                  refine qr_gi rfl kd_176 (w := ?_)
                  refine qr_pi rfl kd_176 (w := ?_)
                  refine qr_il rfl rfl (w := ?_)
                  exact qW_zreturn rfl (Or.inl rfl) ⟨_, rfl, rfl, qG_up ⟨rfl, rfl⟩⟩
                · exfalso
                  omega
        · exfalso
          omega
  · refine qr_al rfl rfl (w := ?_)
    refine qr_gi rfl kd_176 (w := ?_)
    refine qr_ifeq rfl (fun hcf => ?_) (fun hcf => ?_)
    · exfalso
      omega
    · refine qr_al rfl rfl (w := ?_)
      refine qr_gi rfl kd_176 (w := ?_)
      refine qr_const rfl (w := ?_)
      refine qr_icne rfl (fun hcff => ?_) (fun hcff => ?_)
      · refine qr_il rfl rfl (w := ?_)
        refine qr_const rfl (w := ?_)
        refine qr_icne rfl (fun hcfft => ?_) (fun hcfft => ?_)
        · refine qr_il rfl rfl (w := ?_)
          refine qr_const rfl (w := ?_)
          refine qr_icne rfl (fun hcfftt => ?_) (fun hcfftt => ?_)
          · refine qr_il rfl rfl (w := ?_)
            refine qr_const rfl (w := ?_)
            refine qr_icne rfl (fun hcffttt => ?_) (fun hcffttt => ?_)
            · refine qr_const rfl (w := ?_)
              refine qr_is2 rfl (w := ?_)
              refine qr_al rfl rfl (w := ?_)
              refine qr_il rfl rfl (w := ?_)
              refine qr_ifeq rfl (fun _ => ?_) (fun e => absurd rfl e)
              refine qr_al rfl rfl (w := ?_)
              refine qr_gi rfl kd_176 (w := ?_)
              refine qr_pi rfl kd_176 (w := ?_)
              refine qr_il rfl rfl (w := ?_)
              exact qW_zreturn rfl (Or.inl rfl) ⟨_, rfl, rfl, qG_up ⟨rfl, rfl⟩⟩
            · refine qr_al rfl rfl (w := ?_)
              refine qr_gi rfl kd_176 (w := ?_)
              refine qr_const rfl (w := ?_)
              refine qr_icne rfl (fun hcfftttf => ?_) (fun hcfftttf => ?_)
              · refine qr_const rfl (w := ?_)
                refine qr_is2 rfl (w := ?_)
                refine qr_al rfl rfl (w := ?_)
                refine qr_il rfl rfl (w := ?_)
                refine qr_ifeq rfl (fun _ => ?_) (fun e => absurd rfl e)
                refine qr_al rfl rfl (w := ?_)
                refine qr_gi rfl kd_176 (w := ?_)
                refine qr_pi rfl kd_176 (w := ?_)
                refine qr_il rfl rfl (w := ?_)
                exact qW_zreturn rfl (Or.inl rfl) ⟨_, rfl, rfl, qG_up ⟨rfl, rfl⟩⟩
              · exfalso
                omega
          · refine qr_al rfl rfl (w := ?_)
            refine qr_gi rfl kd_176 (w := ?_)
            refine qr_const rfl (w := ?_)
            refine qr_iceq rfl (fun hcffttf => ?_) (fun hcffttf => ?_)
            · exfalso
              omega
            · refine qr_il rfl rfl (w := ?_)
              refine qr_const rfl (w := ?_)
              refine qr_icne rfl (fun hcffttff => ?_) (fun hcffttff => ?_)
              · refine qr_const rfl (w := ?_)
                refine qr_is2 rfl (w := ?_)
                refine qr_al rfl rfl (w := ?_)
                refine qr_il rfl rfl (w := ?_)
                refine qr_ifeq rfl (fun _ => ?_) (fun e => absurd rfl e)
                refine qr_al rfl rfl (w := ?_)
                refine qr_gi rfl kd_176 (w := ?_)
                refine qr_pi rfl kd_176 (w := ?_)
                refine qr_il rfl rfl (w := ?_)
                exact qW_zreturn rfl (Or.inl rfl) ⟨_, rfl, rfl, qG_up ⟨rfl, rfl⟩⟩
              · refine qr_al rfl rfl (w := ?_)
                refine qr_gi rfl kd_176 (w := ?_)
                refine qr_const rfl (w := ?_)
                refine qr_icne rfl (fun hcffttfff => ?_) (fun hcffttfff => ?_)
                · refine qr_const rfl (w := ?_)
                  refine qr_is2 rfl (w := ?_)
                  refine qr_al rfl rfl (w := ?_)
                  refine qr_il rfl rfl (w := ?_)
                  refine qr_ifeq rfl (fun _ => ?_) (fun e => absurd rfl e)
                  refine qr_al rfl rfl (w := ?_)
                  refine qr_gi rfl kd_176 (w := ?_)
                  refine qr_pi rfl kd_176 (w := ?_)
                  refine qr_il rfl rfl (w := ?_)
                  exact qW_zreturn rfl (Or.inl rfl) ⟨_, rfl, rfl, qG_up ⟨rfl, rfl⟩⟩
                · exfalso
                  omega
        · refine qr_al rfl rfl (w := ?_)
          refine qr_gi rfl kd_176 (w := ?_)
          refine qr_const rfl (w := ?_)
          refine qr_iceq rfl (fun hcfftf => ?_) (fun hcfftf => ?_)
          · exfalso
            omega
          · refine qr_al rfl rfl (w := ?_)
            refine qr_gi rfl kd_176 (w := ?_)
            refine qr_const rfl (w := ?_)
            refine qr_icne rfl (fun hcfftff => ?_) (fun hcfftff => ?_)
            · refine qr_il rfl rfl (w := ?_)
              refine qr_const rfl (w := ?_)
              refine qr_icne rfl (fun hcfftfft => ?_) (fun hcfftfft => ?_)
              · refine qr_il rfl rfl (w := ?_)
                refine qr_const rfl (w := ?_)
                refine qr_icne rfl (fun hcfftfftt => ?_) (fun hcfftfftt => ?_)
                · refine qr_const rfl (w := ?_)
                  refine qr_is2 rfl (w := ?_)
                  refine qr_al rfl rfl (w := ?_)
                  refine qr_il rfl rfl (w := ?_)
                  refine qr_ifeq rfl (fun _ => ?_) (fun e => absurd rfl e)
                  refine qr_al rfl rfl (w := ?_)
                  refine qr_gi rfl kd_176 (w := ?_)
                  refine qr_pi rfl kd_176 (w := ?_)
                  refine qr_il rfl rfl (w := ?_)
                  exact qW_zreturn rfl (Or.inl rfl) ⟨_, rfl, rfl, qG_up ⟨rfl, rfl⟩⟩
                · refine qr_al rfl rfl (w := ?_)
                  refine qr_gi rfl kd_176 (w := ?_)
                  refine qr_const rfl (w := ?_)
                  refine qr_icne rfl (fun hcfftffttf => ?_) (fun hcfftffttf => ?_)
                  · refine qr_const rfl (w := ?_)
                    refine qr_is2 rfl (w := ?_)
                    refine qr_al rfl rfl (w := ?_)
                    refine qr_il rfl rfl (w := ?_)
                    refine qr_ifeq rfl (fun _ => ?_) (fun e => absurd rfl e)
                    refine qr_al rfl rfl (w := ?_)
                    refine qr_gi rfl kd_176 (w := ?_)
                    refine qr_pi rfl kd_176 (w := ?_)
                    refine qr_il rfl rfl (w := ?_)
                    exact qW_zreturn rfl (Or.inl rfl) ⟨_, rfl, rfl, qG_up ⟨rfl, rfl⟩⟩
                  · exfalso
                    omega
              · refine qr_al rfl rfl (w := ?_)
                refine qr_gi rfl kd_176 (w := ?_)
                refine qr_const rfl (w := ?_)
                refine qr_iceq rfl (fun hcfftfftf => ?_) (fun hcfftfftf => ?_)
                · exfalso
                  omega
                · refine qr_il rfl rfl (w := ?_)
                  refine qr_const rfl (w := ?_)
                  refine qr_icne rfl (fun hcfftfftff => ?_) (fun hcfftfftff => ?_)
                  · refine qr_const rfl (w := ?_)
                    refine qr_is2 rfl (w := ?_)
                    refine qr_al rfl rfl (w := ?_)
                    refine qr_il rfl rfl (w := ?_)
                    refine qr_ifeq rfl (fun _ => ?_) (fun e => absurd rfl e)
                    refine qr_al rfl rfl (w := ?_)
                    refine qr_gi rfl kd_176 (w := ?_)
                    refine qr_pi rfl kd_176 (w := ?_)
                    refine qr_il rfl rfl (w := ?_)
                    exact qW_zreturn rfl (Or.inl rfl) ⟨_, rfl, rfl, qG_up ⟨rfl, rfl⟩⟩
                  · refine qr_al rfl rfl (w := ?_)
                    refine qr_gi rfl kd_176 (w := ?_)
                    refine qr_const rfl (w := ?_)
                    refine qr_icne rfl (fun hcfftfftfff => ?_) (fun hcfftfftfff => ?_)
                    · refine qr_const rfl (w := ?_)
                      refine qr_is2 rfl (w := ?_)
                      refine qr_al rfl rfl (w := ?_)
                      refine qr_il rfl rfl (w := ?_)
                      refine qr_ifeq rfl (fun _ => ?_) (fun e => absurd rfl e)
                      refine qr_al rfl rfl (w := ?_)
                      refine qr_gi rfl kd_176 (w := ?_)
                      refine qr_pi rfl kd_176 (w := ?_)
                      refine qr_il rfl rfl (w := ?_)
                      exact qW_zreturn rfl (Or.inl rfl) ⟨_, rfl, rfl, qG_up ⟨rfl, rfl⟩⟩
                    · exfalso
                      omega
            · exfalso
              omega
      · refine qr_al rfl rfl (w := ?_)
        refine qr_gi rfl kd_176 (w := ?_)
        refine qr_const rfl (w := ?_)
        refine qr_icge rfl (fun hcfff => ?_) (fun hcfff => ?_)
        · refine qr_il rfl rfl (w := ?_)
          refine qr_const rfl (w := ?_)
          refine qr_icne rfl (fun hcffft => ?_) (fun hcffft => ?_)
          · refine qr_il rfl rfl (w := ?_)
            refine qr_const rfl (w := ?_)
            refine qr_icne rfl (fun hcffftt => ?_) (fun hcffftt => ?_)
            · refine qr_il rfl rfl (w := ?_)
              refine qr_const rfl (w := ?_)
              refine qr_icne rfl (fun hcfffttt => ?_) (fun hcfffttt => ?_)
              · refine qr_const rfl (w := ?_)
                refine qr_is2 rfl (w := ?_)
                refine qr_al rfl rfl (w := ?_)
                refine qr_il rfl rfl (w := ?_)
                refine qr_ifeq rfl (fun _ => ?_) (fun e => absurd rfl e)
                refine qr_al rfl rfl (w := ?_)
                refine qr_gi rfl kd_176 (w := ?_)
                refine qr_pi rfl kd_176 (w := ?_)
                refine qr_il rfl rfl (w := ?_)
                exact qW_zreturn rfl (Or.inl rfl) ⟨_, rfl, rfl, qG_up ⟨rfl, rfl⟩⟩
              · refine qr_al rfl rfl (w := ?_)
                refine qr_gi rfl kd_176 (w := ?_)
                refine qr_const rfl (w := ?_)
                refine qr_icne rfl (fun hcffftttf => ?_) (fun hcffftttf => ?_)
                · refine qr_const rfl (w := ?_)
                  refine qr_is2 rfl (w := ?_)
                  refine qr_al rfl rfl (w := ?_)
                  refine qr_il rfl rfl (w := ?_)
                  refine qr_ifeq rfl (fun _ => ?_) (fun e => absurd rfl e)
                  refine qr_al rfl rfl (w := ?_)
                  refine qr_gi rfl kd_176 (w := ?_)
                  refine qr_pi rfl kd_176 (w := ?_)
                  refine qr_il rfl rfl (w := ?_)
                  exact qW_zreturn rfl (Or.inl rfl) ⟨_, rfl, rfl, qG_up ⟨rfl, rfl⟩⟩
                · exfalso
                  omega
            · refine qr_al rfl rfl (w := ?_)
              refine qr_gi rfl kd_176 (w := ?_)
              refine qr_const rfl (w := ?_)
              refine qr_iceq rfl (fun hcfffttf => ?_) (fun hcfffttf => ?_)
              · exfalso
                omega
              · refine qr_il rfl rfl (w := ?_)
                refine qr_const rfl (w := ?_)
                refine qr_icne rfl (fun hcfffttff => ?_) (fun hcfffttff => ?_)
                · refine qr_const rfl (w := ?_)
                  refine qr_is2 rfl (w := ?_)
                  refine qr_al rfl rfl (w := ?_)
                  refine qr_il rfl rfl (w := ?_)
                  refine qr_ifeq rfl (fun _ => ?_) (fun e => absurd rfl e)
                  refine qr_al rfl rfl (w := ?_)
                  refine qr_gi rfl kd_176 (w := ?_)
                  refine qr_pi rfl kd_176 (w := ?_)
                  refine qr_il rfl rfl (w := ?_)
                  exact qW_zreturn rfl (Or.inl rfl) ⟨_, rfl, rfl, qG_up ⟨rfl, rfl⟩⟩
                · refine qr_al rfl rfl (w := ?_)
                  refine qr_gi rfl kd_176 (w := ?_)
                  refine qr_const rfl (w := ?_)
                  refine qr_icne rfl (fun hcfffttfff => ?_) (fun hcfffttfff => ?_)
                  · refine qr_const rfl (w := ?_)
                    refine qr_is2 rfl (w := ?_)
                    refine qr_al rfl rfl (w := ?_)
                    refine qr_il rfl rfl (w := ?_)
                    refine qr_ifeq rfl (fun _ => ?_) (fun e => absurd rfl e)
                    refine qr_al rfl rfl (w := ?_)
                    refine qr_gi rfl kd_176 (w := ?_)
                    refine qr_pi rfl kd_176 (w := ?_)
                    refine qr_il rfl rfl (w := ?_)
                    exact qW_zreturn rfl (Or.inl rfl) ⟨_, rfl, rfl, qG_up ⟨rfl, rfl⟩⟩
                  · exfalso
                    omega
          · refine qr_al rfl rfl (w := ?_)
            refine qr_gi rfl kd_176 (w := ?_)
            refine qr_const rfl (w := ?_)
            refine qr_iceq rfl (fun hcffftf => ?_) (fun hcffftf => ?_)
            · exfalso
              omega
            · refine qr_al rfl rfl (w := ?_)
              refine qr_gi rfl kd_176 (w := ?_)
              refine qr_const rfl (w := ?_)
              refine qr_icne rfl (fun hcffftff => ?_) (fun hcffftff => ?_)
              · refine qr_il rfl rfl (w := ?_)
                refine qr_const rfl (w := ?_)
                refine qr_icne rfl (fun hcffftfft => ?_) (fun hcffftfft => ?_)
                · refine qr_il rfl rfl (w := ?_)
                  refine qr_const rfl (w := ?_)
                  refine qr_icne rfl (fun hcffftfftt => ?_) (fun hcffftfftt => ?_)
                  · refine qr_const rfl (w := ?_)
                    refine qr_is2 rfl (w := ?_)
                    refine qr_al rfl rfl (w := ?_)
                    refine qr_il rfl rfl (w := ?_)
                    refine qr_ifeq rfl (fun _ => ?_) (fun e => absurd rfl e)
                    refine qr_al rfl rfl (w := ?_)
                    refine qr_gi rfl kd_176 (w := ?_)
                    refine qr_pi rfl kd_176 (w := ?_)
                    refine qr_il rfl rfl (w := ?_)
                    exact qW_zreturn rfl (Or.inl rfl) ⟨_, rfl, rfl, qG_up ⟨rfl, rfl⟩⟩
                  · refine qr_al rfl rfl (w := ?_)
                    refine qr_gi rfl kd_176 (w := ?_)
                    refine qr_const rfl (w := ?_)
                    refine qr_icne rfl (fun hcffftffttf => ?_) (fun hcffftffttf => ?_)
                    · refine qr_const rfl (w := ?_)
                      refine qr_is2 rfl (w := ?_)
                      refine qr_al rfl rfl (w := ?_)
                      refine qr_il rfl rfl (w := ?_)
                      refine qr_ifeq rfl (fun _ => ?_) (fun e => absurd rfl e)
                      refine qr_al rfl rfl (w := ?_)
                      refine qr_gi rfl kd_176 (w := ?_)
                      refine qr_pi rfl kd_176 (w := ?_)
                      refine qr_il rfl rfl (w := ?_)
                      exact qW_zreturn rfl (Or.inl rfl) ⟨_, rfl, rfl, qG_up ⟨rfl, rfl⟩⟩
                    · exfalso
                      omega
                · refine qr_al rfl rfl (w := ?_)
                  refine qr_gi rfl kd_176 (w := ?_)
                  refine qr_const rfl (w := ?_)
                  refine qr_iceq rfl (fun hcffftfftf => ?_) (fun hcffftfftf => ?_)
                  · exfalso
                    omega
                  · refine qr_il rfl rfl (w := ?_)
                    refine qr_const rfl (w := ?_)
                    refine qr_icne rfl (fun hcffftfftff => ?_) (fun hcffftfftff => ?_)
                    · refine qr_const rfl (w := ?_)
                      refine qr_is2 rfl (w := ?_)
                      refine qr_al rfl rfl (w := ?_)
                      refine qr_il rfl rfl (w := ?_)
                      refine qr_ifeq rfl (fun _ => ?_) (fun e => absurd rfl e)
                      refine qr_al rfl rfl (w := ?_)
                      refine qr_gi rfl kd_176 (w := ?_)
                      refine qr_pi rfl kd_176 (w := ?_)
                      refine qr_il rfl rfl (w := ?_)
                      exact qW_zreturn rfl (Or.inl rfl) ⟨_, rfl, rfl, qG_up ⟨rfl, rfl⟩⟩
                    · refine qr_al rfl rfl (w := ?_)
                      refine qr_gi rfl kd_176 (w := ?_)
                      refine qr_const rfl (w := ?_)
                      refine qr_icne rfl (fun hcffftfftfff => ?_) (fun hcffftfftfff => ?_)
                      · refine qr_const rfl (w := ?_)
                        refine qr_is2 rfl (w := ?_)
                        refine qr_al rfl rfl (w := ?_)
                        refine qr_il rfl rfl (w := ?_)
                        refine qr_ifeq rfl (fun _ => ?_) (fun e => absurd rfl e)
                        refine qr_al rfl rfl (w := ?_)
                        refine qr_gi rfl kd_176 (w := ?_)
                        refine qr_pi rfl kd_176 (w := ?_)
                        refine qr_il rfl rfl (w := ?_)
                        exact qW_zreturn rfl (Or.inl rfl) ⟨_, rfl, rfl, qG_up ⟨rfl, rfl⟩⟩
                      · exfalso
                        omega
              · exfalso
                omega
        · exfalso
          omega
