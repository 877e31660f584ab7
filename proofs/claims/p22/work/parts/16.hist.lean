/-! History -/
variable {m : Nat → Int → Int} {r : Nat → Int → Option Nat}
/-- where the history's states are, the oldest first -/
def qHr (r : Nat → Int → Option Nat) (f : Nat → Nat) : Prop := ∀ i : Nat, i < 5 → r 150 i = some (f i) ∧ (∃ a, a < 5 ∧ f i = 151 + 5 * a) ∧ ∀ j : Nat, j < 5 → f i = f j → i = j
abbrev qSC : Type := List Int × List Int × Int × Int × Int
def qSct (m : Nat → Int → Int) (z : Nat) (c : qSC) : Prop := qSc m z c.1 c.2.1 c.2.2.1 c.2.2.2.1 c.2.2.2.2
def qHc (m : Nat → Int → Int) (f : Nat → Nat) (hs : List qSC) : Prop := m 149 1 = hs.length ∧ hs.length ≤ 5 ∧ ∀ (i : Nat) (h : i < hs.length), qSct m (f i) hs[i]
theorem qSct_fr {P : Nat → Prop} {m m' : Nat → Int → Int} {z : Nat} {c : qSC} (h : qSct m z c) (f : qFr P m m') (h0 : ∀ a, z ≤ a → a < z + 5 → ¬ P a) : qSct m' z c := qSc_fr h f h0
theorem kHistF (h : qE r) {f : Nat → Nat} (hr : qHr r f) {i : Nat} (hi : i < 5) : qSt qT0 r (f i) := by
  obtain ⟨a, ha, e⟩ := (hr i hi).2.1
  rw [e]
  exact kHist h ha
theorem qHr_rng {f : Nat → Nat} (hr : qHr r f) {i : Nat} (hi : i < 5) : 151 ≤ f i ∧ f i + 5 ≤ 176 := by
  obtain ⟨a, ha, e⟩ := (hr i hi).2.1
  omega
theorem qHr_dis {f : Nat → Nat} (hr : qHr r f) {i j : Nat} (hi : i < 5) (hj : j < 5) (hij : i ≠ j) : f i + 5 ≤ f j ∨ f j + 5 ≤ f i := by
  obtain ⟨a, ha, e⟩ := (hr i hi).2.1
  obtain ⟨b, hb, e'⟩ := (hr j hj).2.1
  have h1 : a ≠ b := fun h => hij ((hr i hi).2.2 j hj (by rw [e, e', h]))
  omega
theorem qHc_fr {P : Nat → Prop} {m m' : Nat → Int → Int} {f : Nat → Nat} {hs : List qSC} (hr : qHr r f) (h : qHc m f hs) (g : qFr P m m') (h0 : ∀ a, 149 ≤ a → a < 176 → ¬ P a) : qHc m' f hs :=
  ⟨by rw [g 149 (h0 _ (by omega) (by omega))]; exact h.1, h.2.1, fun i hi => by
    have h5 := h.2.1
    have hg := qHr_rng hr (i := i) (by omega)
    exact qSct_fr (h.2.2 i hi) g (fun a h1 h2 => h0 a (by omega) (by omega))⟩
theorem sHist_size {f : Nat → Nat} {hs : List qSC} (hc : qHc m f hs) : qP m_Hist_size [qK 149] (qT0, m, r) (qI hs.length) := by
  refine qr_al rfl rfl (w := ?_)
  refine qr_gi rfl kd_149 (w := ?_)
  refine qW_ireturn rfl ?_
  exact ⟨congrArg qI hc.1, rfl⟩
theorem qupr_s {r : Nat → Int → Option Nat} {z : Nat} {i : Int} {x : Option Nat} : qup r z i x z i = x := by simp [qup]
theorem qupr_i {r : Nat → Int → Option Nat} {z : Nat} {i j : Int} {x : Option Nat} (h : j ≠ i) : qup r z i x z j = r z j := by simp [qup, h]
theorem qupr_z {r : Nat → Int → Option Nat} {z y : Nat} {i j : Int} {x : Option Nat} (h : y ≠ z) : qup r z i x y j = r y j := by simp [qup, h]
def qGi (f : Nat → Nat) (i j : Nat) : Nat := if j + 1 < i then f (j + 1) else if j + 1 = i then f 0 else f j
theorem sHist_forget_loop {f : Nat → Nat} (hf : ∀ i, i < 5 → ∃ a, a < 5 ∧ f i = 151 + 5 * a) {Q : qA → qM → Prop} (K : ∀ (y : qA) (r' : Nat → Int → Option Nat), qE r' → (∀ j : Nat, j < 5 → r' 150 j = some (qGi f 5 j)) → qW m_Hist_forgetOldest 47 [qK 149, qI 5, y] [] (qT0, m, r') Q) :
    ∀ (k i : Nat) (y : qA) (r : Nat → Int → Option Nat), i + k = 5 → 1 ≤ i → qE r → (∀ j : Nat, j < 5 → r 150 j = some (qGi f i j)) → qW m_Hist_forgetOldest 2 [qK 149, qI i, y] [] (qT0, m, r) Q := by
  have hk : ∀ i, i < 5 → qT0[f i]? = some (0, 6) := fun i hi => by
    obtain ⟨a, ha, e⟩ := hf i hi
    rw [e]
    exact (qha_ok a ha).1
  intro k
  induction k with
  | zero =>
    intro i y r hik hi h hr
    have hie : i = 5 := by omega
    subst hie
    refine qr_il rfl rfl (w := ?_)
    refine qr_al rfl rfl (w := ?_)
    refine qr_gr rfl kd_149 (hr := (rf_1_0 h)) (w := ?_)
    refine qr_len rfl kd_150 (w := ?_)
    refine qr_icge rfl (fun hc => ?_) (fun hc => ?_)
    · exact K y r h hr
    · exact absurd hc (by omega)
  | succ k ih =>
    intro i y r hik hi h hr
    have e1 : r 150 ((i : Int) - 1) = some (f 0) := by
      have h1 := hr (i - 1) (by omega)
      rw [show ((i - 1 : Nat) : Int) = (i : Int) - 1 by omega] at h1
      rw [h1]
      unfold qGi
      rw [if_neg (by omega), if_pos (by omega)]
    have e2 : r 150 (i : Int) = some (f i) := by
      rw [hr i (by omega)]
      unfold qGi
      rw [if_neg (by omega), if_neg (by omega)]
    have h' : qE (qup r 150 ((i : Int) - 1) (some (f i))) := fun k j hk => by rw [qupr_z hk]; exact h k j hk
    have h2 : qE (qup (qup r 150 ((i : Int) - 1) (some (f i))) 150 (i : Int) (some (f 0))) := fun k j hk => by rw [qupr_z hk]; exact h' k j hk
    refine qr_il rfl rfl (w := ?_)
    refine qr_al rfl rfl (w := ?_)
    refine qr_gr rfl kd_149 (hr := (by first | exact rf_1_0 h | exact rf_1_0 h' | exact rf_1_0 h2)) (w := ?_)
    refine qr_len rfl kd_150 (w := ?_)
    refine qr_icge rfl (fun hc => ?_) (fun hc => ?_)
    · exact absurd hc (by omega)
    · refine qr_al rfl rfl (w := ?_)
      refine qr_gr rfl kd_149 (hr := (by first | exact rf_1_0 h | exact rf_1_0 h' | exact rf_1_0 h2)) (w := ?_)
      refine qr_il rfl rfl (w := ?_)
      refine qr_const rfl (w := ?_)
      refine qr_sub rfl (by omega) (w := ?_)
      refine qr_aa rfl kd_150 (by omega) e1 (w := ?_)
      refine qr_as2 rfl (w := ?_)
      refine qr_al rfl rfl (w := ?_)
      refine qr_gr rfl kd_149 (hr := (by first | exact rf_1_0 h | exact rf_1_0 h' | exact rf_1_0 h2)) (w := ?_)
      refine qr_il rfl rfl (w := ?_)
      refine qr_const rfl (w := ?_)
      refine qr_sub rfl (by omega) (w := ?_)
      refine qr_al rfl rfl (w := ?_)
      refine qr_gr rfl kd_149 (hr := (by first | exact rf_1_0 h | exact rf_1_0 h' | exact rf_1_0 h2)) (w := ?_)
      refine qr_il rfl rfl (w := ?_)
      refine qr_aa rfl kd_150 (by omega) e2 (w := ?_)
      refine qr_aas rfl kd_150 ⟨by omega, by omega, hk i (by omega)⟩ (w := ?_)
      refine qr_al rfl rfl (w := ?_)
      refine qr_gr rfl kd_149 (hr := (by first | exact rf_1_0 h | exact rf_1_0 h' | exact rf_1_0 h2)) (w := ?_)
      refine qr_il rfl rfl (w := ?_)
      refine qr_al rfl rfl (w := ?_)
      refine qr_aas rfl kd_150 ⟨by omega, by omega, hk 0 (by omega)⟩ (w := ?_)
      refine qr_inc1 rfl (by omega) (w := ?_)
      refine qr_goto rfl (w := ?_)
      refine ih (i + 1) _ _ (by omega) (by omega) h2 (fun j hj => ?_)
      unfold qGi
      by_cases hji : j = i
      · subst hji
        rw [qupr_s, if_neg (by omega), if_pos (by omega)]
      · rw [qupr_i (by omega)]
        by_cases hj1 : j + 1 = i
        · rw [show (j : Int) = (i : Int) - 1 by omega, qupr_s, if_pos (by omega), hj1]
        · rw [qupr_i (by omega), hr j hj]
          unfold qGi
          congr 1
          by_cases h3 : j + 1 < i
          · rw [if_pos h3, if_pos (by omega)]
          · rw [if_neg h3, if_neg (by omega), if_neg (by omega), if_neg (by omega)]
/-- the oldest state's cells go to the end -/
def qRot (f : Nat → Nat) : Nat → Nat := fun j => if j < 4 then f (j + 1) else f 0
theorem sHist_forget {f : Nat → Nat} {hs : List qSC} (h : qE r) (hr : qHr r f) (hc0 : qHc m f hs) (hl : hs.length = 5) : qW m_Hist_forgetOldest 0 [qK 149, none, none] [] (qT0, m, r) (fun _ σ => ∃ r', σ = (qT0, qup m 149 1 4, r') ∧ qE r' ∧ qHr r' (qRot f) ∧ qHc (qup m 149 1 4) (qRot f) hs.tail) := by
  have hm : m 149 1 = 5 := by rw [hc0.1, hl]; rfl
  have K : ∀ (y : qA) (r' : Nat → Int → Option Nat), qE r' → (∀ j : Nat, j < 5 → r' 150 j = some (qGi f 5 j)) → qW m_Hist_forgetOldest 47 [qK 149, qI 5, y] [] (qT0, m, r') (fun _ σ => ∃ r', σ = (qT0, qup m 149 1 4, r') ∧ qE r' ∧ qHr r' (qRot f) ∧ qHc (qup m 149 1 4) (qRot f) hs.tail) := by
    intro y r' h' hr'
    refine qr_al rfl rfl (w := ?_)
    refine qr_gi rfl kd_149 (w := ?_)
    refine qr_ifle rfl (fun hc => ?_) (fun hc => ?_)
    · first
        | exact absurd hc (by omega)
        | (refine qW_return rfl ?_
           rw [hm]
           have hq : ∀ j, j < 5 → qGi f 5 j = qRot f j := fun j hj => by
             unfold qGi qRot
             by_cases h4 : j < 4
             · rw [if_pos h4, if_pos (by omega)]
             · rw [if_neg h4, if_neg (by omega), if_pos (by omega)]
           have hR : qHr r' (qRot f) := by
             intro j hj
             refine ⟨by rw [hr' j hj, hq j hj], ?_, fun i hi e => ?_⟩
             · unfold qRot
               split
               · exact (hr _ (by omega)).2.1
               · exact (hr _ (by omega)).2.1
             · unfold qRot at e
               by_cases h4 : j < 4
               · by_cases h5 : i < 4
                 · rw [if_pos h4, if_pos h5] at e
                   have := (hr (j + 1) (by omega)).2.2 (i + 1) (by omega) e
                   omega
                 · rw [if_pos h4, if_neg h5] at e
                   have := (hr (j + 1) (by omega)).2.2 0 (by omega) e
                   omega
               · by_cases h5 : i < 4
                 · rw [if_neg h4, if_pos h5] at e
                   have := (hr 0 (by omega)).2.2 (i + 1) (by omega) e
                   omega
                 · omega
           refine ⟨r', rfl, h', hR, ?_, by rw [List.length_tail]; omega, fun i hi => ?_⟩
           · show qup m 149 1 4 149 1 = _
             rw [qup_s, List.length_tail]
             omega
           · rw [List.length_tail] at hi
             rw [List.getElem_tail]
             have e : qRot f i = f (i + 1) := by
               unfold qRot
               rw [if_pos (by omega)]
             rw [e]
             have hg := qHr_rng hr (i := i + 1) (by omega)
             exact qSct_fr (hc0.2.2 (i + 1) (by omega)) (qFr_up (P := fun a => a = 149) rfl) (fun a h1 h2 => by show ¬ a = 149; omega))
    · refine qr_al rfl rfl (w := ?_)
      refine qr_dup rfl (w := ?_)
      refine qr_gi rfl kd_149 (w := ?_)
      refine qr_const rfl (w := ?_)
      refine qr_sub rfl (by omega) (w := ?_)
      refine qr_pi rfl kd_149 (w := ?_)
      first
        | exact absurd hc (by omega)
        | (refine qW_return rfl ?_
           rw [hm]
           have hq : ∀ j, j < 5 → qGi f 5 j = qRot f j := fun j hj => by
             unfold qGi qRot
             by_cases h4 : j < 4
             · rw [if_pos h4, if_pos (by omega)]
             · rw [if_neg h4, if_neg (by omega), if_pos (by omega)]
           have hR : qHr r' (qRot f) := by
             intro j hj
             refine ⟨by rw [hr' j hj, hq j hj], ?_, fun i hi e => ?_⟩
             · unfold qRot
               split
               · exact (hr _ (by omega)).2.1
               · exact (hr _ (by omega)).2.1
             · unfold qRot at e
               by_cases h4 : j < 4
               · by_cases h5 : i < 4
                 · rw [if_pos h4, if_pos h5] at e
                   have := (hr (j + 1) (by omega)).2.2 (i + 1) (by omega) e
                   omega
                 · rw [if_pos h4, if_neg h5] at e
                   have := (hr (j + 1) (by omega)).2.2 0 (by omega) e
                   omega
               · by_cases h5 : i < 4
                 · rw [if_neg h4, if_pos h5] at e
                   have := (hr 0 (by omega)).2.2 (i + 1) (by omega) e
                   omega
                 · omega
           refine ⟨r', rfl, h', hR, ?_, by rw [List.length_tail]; omega, fun i hi => ?_⟩
           · show qup m 149 1 4 149 1 = _
             rw [qup_s, List.length_tail]
             omega
           · rw [List.length_tail] at hi
             rw [List.getElem_tail]
             have e : qRot f i = f (i + 1) := by
               unfold qRot
               rw [if_pos (by omega)]
             rw [e]
             have hg := qHr_rng hr (i := i + 1) (by omega)
             exact qSct_fr (hc0.2.2 (i + 1) (by omega)) (qFr_up (P := fun a => a = 149) rfl) (fun a h1 h2 => by show ¬ a = 149; omega))
  refine qr_const rfl (w := ?_)
  refine qr_is1 rfl (w := ?_)
  exact sHist_forget_loop (fun i hi => (hr i hi).2.1) K 4 1 none r (by omega) (by omega) h (fun j hj => by
    rw [(hr j hj).1]
    unfold qGi
    by_cases h0 : j = 0
    · subst h0
      rw [if_neg (by omega), if_pos (by omega)]
    · rw [if_neg (by omega), if_neg (by omega)])
theorem sHist_keepA {f : Nat → Nat} {hs : List qSC} {c : qSC} (h : qE r) (hr : qHr r f) (hc0 : qHc m f hs) (hl : hs.length < 5) (hs0 : qSct m 144 c) : qW m_Hist_keep 16 [qK 149, qK 144, none] [] (qT0, m, r) (fun _ σ => ∃ m', σ = (qT0, m', r) ∧ qHc m' f (hs ++ [c]) ∧ qFr (qIv 149 176) m m') := by
  have hm := hc0.1
  have h5 : (5 : Nat) = 5 := rfl
  have e1 : r 150 (m 149 1) = some (f hs.length) := by
    rw [hm]
    exact (hr _ hl).1
  have hg := qHr_rng hr hl
  refine qr_al rfl rfl (w := ?_)
  refine qr_gi rfl kd_149 (w := ?_)
  refine qr_iflt rfl (fun hc => ?_) (fun hc => ?_)
  · first
      | exact absurd hc (by omega)
      | exact absurd hcf (by omega)
      | (refine qW_return rfl ⟨_, rfl, ⟨?_, by rw [List.length_append]; simp only [List.length_cons, List.length_nil]; omega, fun i hi => ?_⟩, qFr_tr (qFr_mo hf1 (fun a ha => ⟨by have := ha.1; omega, by have := ha.2; omega⟩)) (qFr_up ⟨by omega, by omega⟩)⟩
         · rw [qup_s, hm1, hm, List.length_append]
           simp only [List.length_cons, List.length_nil]
           omega
         · rw [List.length_append] at hi
           simp only [List.length_cons, List.length_nil] at hi
           have hgi := qHr_rng hr (i := i) (by omega)
           have up : qFr (fun a => a = 149) m1 (qup m1 149 1 (m1 149 1 + 1)) := qFr_up rfl
           refine qSct_fr ?_ up (fun a h1 h2 => by show ¬ a = 149; omega)
           by_cases hie : i = hs.length
           · subst hie
             rw [List.getElem_append_right (by omega)]
             simp only [Nat.sub_self, List.getElem_cons_zero]
             exact hz1
           · rw [List.getElem_append_left (by omega)]
             have hd := qHr_dis hr (i := i) (j := hs.length) (by omega) (by omega) hie
             exact qSct_fr (hc0.2.2 i (by omega)) hf1 (fun a h1 h2 => by show ¬ (f hs.length ≤ a ∧ a < f hs.length + 5); omega))
  · refine qr_al rfl rfl (w := ?_)
    refine qr_gi rfl kd_149 (w := ?_)
    refine qr_al rfl rfl (w := ?_)
    refine qr_gr rfl kd_149 (hr := (rf_1_0 h)) (w := ?_)
    refine qr_len rfl kd_150 (w := ?_)
    refine qr_icge rfl (fun hcf => ?_) (fun hcf => ?_)
    · first
        | exact absurd hc (by omega)
        | exact absurd hcf (by omega)
        | (refine qW_return rfl ⟨_, rfl, ⟨?_, by rw [List.length_append]; simp only [List.length_cons, List.length_nil]; omega, fun i hi => ?_⟩, qFr_tr (qFr_mo hf1 (fun a ha => ⟨by have := ha.1; omega, by have := ha.2; omega⟩)) (qFr_up ⟨by omega, by omega⟩)⟩
           · rw [qup_s, hm1, hm, List.length_append]
             simp only [List.length_cons, List.length_nil]
             omega
           · rw [List.length_append] at hi
             simp only [List.length_cons, List.length_nil] at hi
             have hgi := qHr_rng hr (i := i) (by omega)
             have up : qFr (fun a => a = 149) m1 (qup m1 149 1 (m1 149 1 + 1)) := qFr_up rfl
             refine qSct_fr ?_ up (fun a h1 h2 => by show ¬ a = 149; omega)
             by_cases hie : i = hs.length
             · subst hie
               rw [List.getElem_append_right (by omega)]
               simp only [Nat.sub_self, List.getElem_cons_zero]
               exact hz1
             · rw [List.getElem_append_left (by omega)]
               have hd := qHr_dis hr (i := i) (j := hs.length) (by omega) (by omega) hie
               exact qSct_fr (hc0.2.2 i (by omega)) hf1 (fun a h1 h2 => by show ¬ (f hs.length ≤ a ∧ a < f hs.length + 5); omega))
    · refine qr_al rfl rfl (w := ?_)
      refine qr_gr rfl kd_149 (hr := (rf_1_0 h)) (w := ?_)
      refine qr_al rfl rfl (w := ?_)
      refine qr_gi rfl kd_149 (w := ?_)
      refine qr_aa rfl kd_150 (by omega) e1 (w := ?_)
      refine qr_as2 rfl (w := ?_)
      refine qr_al rfl rfl (w := ?_)
      refine qr_nul rfl (w := ?_)
      refine qr_al rfl rfl (w := ?_)
      refine qr_al rfl rfl (w := ?_)
      refine qr_callV rfl (sState_copyFrom (kHistF h hr hl) (kState h) hs0 (by omega)) (qrcv1 (kHistF h hr hl).1) (w := fun _ σ hσ => ?_)
      obtain ⟨m1, rfl, hz1, hf1⟩ := hσ
      have hm1 : m1 149 = m 149 := hf1 149 (by show ¬ (f hs.length ≤ 149 ∧ 149 < f hs.length + 5); omega)
      refine qr_al rfl rfl (w := ?_)
      refine qr_dup rfl (w := ?_)
      refine qr_gi rfl kd_149 (w := ?_)
      refine qr_const rfl (w := ?_)
      refine qr_add rfl (by first | omega | (rw [hm1]; omega)) (w := ?_)
      refine qr_pi rfl kd_149 (w := ?_)
      first
        | exact absurd hc (by omega)
        | exact absurd hcf (by omega)
        | (refine qW_return rfl ⟨_, rfl, ⟨?_, by rw [List.length_append]; simp only [List.length_cons, List.length_nil]; omega, fun i hi => ?_⟩, qFr_tr (qFr_mo hf1 (fun a ha => ⟨by have := ha.1; omega, by have := ha.2; omega⟩)) (qFr_up ⟨by omega, by omega⟩)⟩
           · rw [qup_s, hm1, hm, List.length_append]
             simp only [List.length_cons, List.length_nil]
             omega
           · rw [List.length_append] at hi
             simp only [List.length_cons, List.length_nil] at hi
             have hgi := qHr_rng hr (i := i) (by omega)
             have up : qFr (fun a => a = 149) m1 (qup m1 149 1 (m1 149 1 + 1)) := qFr_up rfl
             refine qSct_fr ?_ up (fun a h1 h2 => by show ¬ a = 149; omega)
             by_cases hie : i = hs.length
             · subst hie
               rw [List.getElem_append_right (by omega)]
               simp only [Nat.sub_self, List.getElem_cons_zero]
               exact hz1
             · rw [List.getElem_append_left (by omega)]
               have hd := qHr_dis hr (i := i) (j := hs.length) (by omega) (by omega) hie
               exact qSct_fr (hc0.2.2 i (by omega)) hf1 (fun a h1 h2 => by show ¬ (f hs.length ≤ a ∧ a < f hs.length + 5); omega))
/-- the history with one state more, five at most -/
def qPush {α : Type} (hs : List α) (c : α) : List α := if hs.length < 5 then hs ++ [c] else hs.tail ++ [c]
theorem sHist_keep {f : Nat → Nat} {hs : List qSC} {c : qSC} (h : qE r) (hr : qHr r f) (hc0 : qHc m f hs) (hs0 : qSct m 144 c) : qW m_Hist_keep 0 [qK 149, qK 144, none] [] (qT0, m, r) (fun _ σ => ∃ m' r' f', σ = (qT0, m', r') ∧ qE r' ∧ qHr r' f' ∧ qHc m' f' (qPush hs c) ∧ qFr (qIv 149 176) m m') := by
  have hm := hc0.1
  have hl5 := hc0.2.1
  refine qr_al rfl rfl (w := ?_)
  refine qr_gi rfl kd_149 (w := ?_)
  refine qr_al rfl rfl (w := ?_)
  refine qr_gr rfl kd_149 (hr := (rf_1_0 h)) (w := ?_)
  refine qr_len rfl kd_150 (w := ?_)
  refine qr_iclt rfl (fun hc => ?_) (fun hc => ?_)
  · first
      | (have hl : hs.length < 5 := by omega
         refine qW_mono (sHist_keepA h hr hc0 hl hs0) (fun x σ hσ => ?_)
         obtain ⟨m1, rfl, g1, g2⟩ := hσ
         refine ⟨m1, r, f, rfl, h, hr, ?_, g2⟩
         unfold qPush
         rw [if_pos hl]
         exact g1)
      | (have hl : ¬ hs.length < 5 := by omega
         refine qW_mono (sHist_keepA h1 hr1 hc1 (by rw [List.length_tail]; omega) (qSct_fr hs0 (qFr_up (P := fun a => a = 149) rfl) (fun a g1 g2 => by show ¬ a = 149; omega))) (fun x σ hσ => ?_)
         obtain ⟨m1, rfl, g1, g2⟩ := hσ
         refine ⟨m1, r1, qRot f, rfl, h1, hr1, ?_, qFr_tr (qFr_up ⟨by omega, by omega⟩) g2⟩
         unfold qPush
         rw [if_neg hl]
         exact g1)
  · refine qr_al rfl rfl (w := ?_)
    refine qr_callV rfl (sHist_forget h hr hc0 (by omega)) (qrcv1 kd_149) (w := fun _ σ hσ => ?_)
    obtain ⟨r1, rfl, h1, hr1, hc1⟩ := hσ
    first
      | (have hl : hs.length < 5 := by omega
         refine qW_mono (sHist_keepA h hr hc0 hl hs0) (fun x σ hσ => ?_)
         obtain ⟨m1, rfl, g1, g2⟩ := hσ
         refine ⟨m1, r, f, rfl, h, hr, ?_, g2⟩
         unfold qPush
         rw [if_pos hl]
         exact g1)
      | (have hl : ¬ hs.length < 5 := by omega
         refine qW_mono (sHist_keepA h1 hr1 hc1 (by rw [List.length_tail]; omega) (qSct_fr hs0 (qFr_up (P := fun a => a = 149) rfl) (fun a g1 g2 => by show ¬ a = 149; omega))) (fun x σ hσ => ?_)
         obtain ⟨m1, rfl, g1, g2⟩ := hσ
         refine ⟨m1, r1, qRot f, rfl, h1, hr1, ?_, qFr_tr (qFr_up ⟨by omega, by omega⟩) g2⟩
         unfold qPush
         rw [if_neg hl]
         exact g1)
theorem sHist_restore {f : Nat → Nat} {hs : List qSC} (h : qE r) (hr : qHr r f) (hc0 : qHc m f hs) (hl : 0 < hs.length) : qW m_Hist_restore 0 [qK 149, qK 144, none] [] (qT0, m, r) (fun _ σ => ∃ m', σ = (qT0, m', r) ∧ qSct m' 144 (hs[hs.length - 1]) ∧ qHc m' f (hs.take (hs.length - 1)) ∧ qFr (qIv 144 150) m m') := by
  have hm := hc0.1
  have hl5 := hc0.2.1
  have e1 : r 150 (m 149 1 - 1) = some (f (hs.length - 1)) := by
    rw [hm, show (hs.length : Int) - 1 = ((hs.length - 1 : Nat) : Int) by omega]
    exact (hr _ (by omega)).1
  have hk := kHistF h hr (i := hs.length - 1) (by omega)
  have hg := qHr_rng hr (i := hs.length - 1) (by omega)
  refine qr_al rfl rfl (w := ?_)
  refine qr_gi rfl kd_149 (w := ?_)
  refine qr_ifle rfl (fun hc => ?_) (fun hc => ?_)
  · first
      | exact absurd hc (by omega)
      | exact absurd hcf (by omega)
      | (have up : qFr (fun a => a = 149) m1 (qup m1 149 1 (m1 149 1 - 1)) := qFr_up rfl
         refine qW_return rfl ⟨_, rfl, qSct_fr hz1 up (fun a h1 h2 => by show ¬ a = 149; omega), ⟨?_, by rw [List.length_take]; omega, fun i hi => ?_⟩, qFr_tr (qFr_mo hf1 (fun a ha => ⟨ha.1, by have := ha.2; omega⟩)) (qFr_up ⟨by omega, by omega⟩)⟩
         · rw [qup_s, hm1, hm, List.length_take]
           omega
         · rw [List.length_take] at hi
           have hgi := qHr_rng hr (i := i) (by omega)
           refine qSct_fr ?_ up (fun a h1 h2 => by show ¬ a = 149; omega)
           rw [List.getElem_take]
           exact qSct_fr (hc0.2.2 i (by omega)) hf1 (fun a h1 h2 => by show ¬ (144 ≤ a ∧ a < 149); omega))
  · refine qr_al rfl rfl (w := ?_)
    refine qr_gi rfl kd_149 (w := ?_)
    refine qr_al rfl rfl (w := ?_)
    refine qr_gr rfl kd_149 (hr := (rf_1_0 h)) (w := ?_)
    refine qr_len rfl kd_150 (w := ?_)
    refine qr_icgt rfl (fun hcf => ?_) (fun hcf => ?_)
    · first
        | exact absurd hc (by omega)
        | exact absurd hcf (by omega)
        | (have up : qFr (fun a => a = 149) m1 (qup m1 149 1 (m1 149 1 - 1)) := qFr_up rfl
           refine qW_return rfl ⟨_, rfl, qSct_fr hz1 up (fun a h1 h2 => by show ¬ a = 149; omega), ⟨?_, by rw [List.length_take]; omega, fun i hi => ?_⟩, qFr_tr (qFr_mo hf1 (fun a ha => ⟨ha.1, by have := ha.2; omega⟩)) (qFr_up ⟨by omega, by omega⟩)⟩
           · rw [qup_s, hm1, hm, List.length_take]
             omega
           · rw [List.length_take] at hi
             have hgi := qHr_rng hr (i := i) (by omega)
             refine qSct_fr ?_ up (fun a h1 h2 => by show ¬ a = 149; omega)
             rw [List.getElem_take]
             exact qSct_fr (hc0.2.2 i (by omega)) hf1 (fun a h1 h2 => by show ¬ (144 ≤ a ∧ a < 149); omega))
    · refine qr_al rfl rfl (w := ?_)
      refine qr_gr rfl kd_149 (hr := (rf_1_0 h)) (w := ?_)
      refine qr_al rfl rfl (w := ?_)
      refine qr_gi rfl kd_149 (w := ?_)
      refine qr_const rfl (w := ?_)
      refine qr_sub rfl (by first | omega | (rw [hm1]; omega)) (w := ?_)
      refine qr_aa rfl kd_150 (by omega) e1 (w := ?_)
      refine qr_as2 rfl (w := ?_)
      refine qr_al rfl rfl (w := ?_)
      refine qr_nul rfl (w := ?_)
      refine qr_al rfl rfl (w := ?_)
      refine qr_al rfl rfl (w := ?_)
      refine qr_callV rfl (sState_copyFrom (kState h) hk (hc0.2.2 (hs.length - 1) (by omega)) (by omega)) (qrcv1 kd_144) (w := fun _ σ hσ => ?_)
      obtain ⟨m1, rfl, hz1, hf1⟩ := hσ
      have hm1 : m1 149 = m 149 := hf1 149 (by show ¬ (144 ≤ 149 ∧ 149 < 149); omega)
      refine qr_al rfl rfl (w := ?_)
      refine qr_dup rfl (w := ?_)
      refine qr_gi rfl kd_149 (w := ?_)
      refine qr_const rfl (w := ?_)
      refine qr_sub rfl (by first | omega | (rw [hm1]; omega)) (w := ?_)
      refine qr_pi rfl kd_149 (w := ?_)
      first
        | exact absurd hc (by omega)
        | exact absurd hcf (by omega)
        | (have up : qFr (fun a => a = 149) m1 (qup m1 149 1 (m1 149 1 - 1)) := qFr_up rfl
           refine qW_return rfl ⟨_, rfl, qSct_fr hz1 up (fun a h1 h2 => by show ¬ a = 149; omega), ⟨?_, by rw [List.length_take]; omega, fun i hi => ?_⟩, qFr_tr (qFr_mo hf1 (fun a ha => ⟨ha.1, by have := ha.2; omega⟩)) (qFr_up ⟨by omega, by omega⟩)⟩
           · rw [qup_s, hm1, hm, List.length_take]
             omega
           · rw [List.length_take] at hi
             have hgi := qHr_rng hr (i := i) (by omega)
             refine qSct_fr ?_ up (fun a h1 h2 => by show ¬ a = 149; omega)
             rw [List.getElem_take]
             exact qSct_fr (hc0.2.2 i (by omega)) hf1 (fun a h1 h2 => by show ¬ (144 ≤ a ∧ a < 149); omega))
