/-! The reference's writer -/
variable {m : Nat → Int → Int} {r : Nat → Int → Option Nat}
/-- all but some places stay -/
def qG (P : Nat → Int → Prop) (m m' : Nat → Int → Int) : Prop := ∀ (a : Nat) (j : Int), ¬ P a j → m' a j = m a j
theorem qG_rf {P : Nat → Int → Prop} {m : Nat → Int → Int} : qG P m m := fun _ _ _ => rfl
theorem qG_tr {P : Nat → Int → Prop} {m m1 m2 : Nat → Int → Int} (h : qG P m m1) (g : qG P m1 m2) : qG P m m2 := fun a j ha => (g a j ha).trans (h a j ha)
theorem qG_mo {P P' : Nat → Int → Prop} {m m' : Nat → Int → Int} (h : qG P m m') (g : ∀ a j, P a j → P' a j) : qG P' m m' := fun a j ha => h a j (fun x => ha (g a j x))
theorem qG_up {P : Nat → Int → Prop} {m : Nat → Int → Int} {z : Nat} {i x : Int} (h : P z i) : qG P m (qup m z i x) := fun a j ha => by
  unfold qup
  split
  · rename_i e
    subst e
    split
    · rename_i e
      subst e
      exact absurd h ha
    · rfl
  · rfl
theorem qG_row {P : Nat → Int → Prop} {m m' : Nat → Int → Int} (h : qG P m m') {a : Nat} (ha : ∀ j, ¬ P a j) : m' a = m a := funext fun j => h a j (ha j)
/-- the text written so far -/
def qWt (m : Nat → Int → Int) (l : List Int) : Prop := m 176 7 = l.length ∧ ∀ k : Nat, k < l.length → m 181 k = l.getD k 0
abbrev qPw : Nat → Int → Prop := fun a j => a = 181 ∨ a = 182 ∨ (a = 176 ∧ j = 7)
abbrev qPw1 : Nat → Int → Prop := fun a j => a = 181 ∨ (a = 176 ∧ j = 7)
theorem qGw {m1 : Nat → Int → Int} (hG : qG qPw1 m m1) {a : Nat} (h : a ≠ 181 ∧ a ≠ 176) : m1 a = m a := qG_row hG (fun j e => by rcases e with e | e <;> omega)
theorem qWt_add {l : List Int} {c : Int} (hT : qWt m l) : qWt (qup (qup m 181 l.length c) 176 7 (l.length + 1)) (l ++ [c]) := by
  refine ⟨by rw [qup_s, List.length_append]; rfl, fun k hk => ?_⟩
  rw [List.length_append] at hk
  simp only [List.length_cons, List.length_nil] at hk
  rw [qup_z (by decide), List.getD_eq_getElem?_getD]
  by_cases h : k < l.length
  · rw [qup_i (by omega), List.getElem?_append_left h, ← List.getD_eq_getElem?_getD]
    exact hT.2 k h
  · have e : k = l.length := by omega
    subst e
    rw [qup_s, List.getElem?_append_right (Nat.le_refl _), Nat.sub_self]
    rfl
theorem mWrites (h : qE r) {l : List Int} {c : Int} (hT : qWt m l) (hl : l.length < 160) : qW m_Mo_writes 0 [qK 176, qI c] [] (qT0, m, r) (fun _ σ => ∃ m', σ = (qT0, m', r) ∧ qWt m' (l ++ [c]) ∧ qG qPw1 m m') := by
  have e7 := hT.1
  refine qr_al rfl rfl (w := ?_)
  refine qr_gr rfl kd_176 (hr := (rf_8_6 h)) (w := ?_)
  refine qr_al rfl rfl (w := ?_)
  refine qr_gi rfl kd_176 (w := ?_)
  rw [e7]
  refine qr_il rfl rfl (w := ?_)
  refine qr_ias rfl kd_181 (by omega) (w := ?_)
  refine qr_al rfl rfl (w := ?_)
  refine qr_dup rfl (w := ?_)
  refine qr_gi rfl kd_176 (w := ?_)
  rw [qup_z (by decide), e7]
  refine qr_const rfl (w := ?_)
  refine qr_add rfl (by omega) (w := ?_)
  refine qr_pi rfl kd_176 (w := ?_)
  refine qW_return rfl ?_
  exact ⟨_, rfl, qWt_add hT, qG_tr (qG_up (Or.inl rfl)) (qG_up (Or.inr ⟨rfl, rfl⟩))⟩
theorem mWritesValue (h : qE r) {l : List Int} {v : Int} (hv : 0 ≤ v ∧ v ≤ 999) (hT0 : qWt m l) (hl : l.length + 3 < 160) : qW m_Mo_writesValue 0 [qK 176, qI v] [] (qT0, m, r) (fun _ σ => ∃ m', σ = (qT0, m', r) ∧ qWt m' (l ++ qNum v) ∧ qG qPw1 m m') := by
  unfold qNum
  by_cases h1 : 100 ≤ v
  · rw [if_pos h1, if_pos (by omega)]
    refine qr_il rfl rfl (w := ?_)
    refine qr_const rfl (w := ?_)
    refine qr_icle rfl (fun hc => absurd hc (by omega)) (fun hc => ?_)
    refine qr_al rfl rfl (w := ?_)
    refine qr_const rfl (w := ?_)
    refine qr_il rfl rfl (w := ?_)
    refine qr_const rfl (w := ?_)
    refine qr_div rfl (by omega) (w := ?_)
    refine qr_add rfl (by omega) (w := ?_)
    refine qr_callV rfl (mWrites h hT0 (by (try simp only [List.length_append, List.length_cons, List.length_nil]); omega)) (qrcv1 kd_176) (w := fun _ σ hσ => ?_)
    obtain ⟨m1, rfl, hT1, hG1⟩ := hσ
    refine qr_il rfl rfl (w := ?_)
    refine qr_const rfl (w := ?_)
    refine qr_icle rfl (fun hcf => absurd hcf (by omega)) (fun hcf => ?_)
    refine qr_al rfl rfl (w := ?_)
    refine qr_const rfl (w := ?_)
    refine qr_il rfl rfl (w := ?_)
    refine qr_const rfl (w := ?_)
    refine qr_div rfl (by omega) (w := ?_)
    refine qr_const rfl (w := ?_)
    refine qr_rem rfl (by omega) (w := ?_)
    refine qr_add rfl (by omega) (w := ?_)
    refine qr_callV rfl (mWrites h hT1 (by (try simp only [List.length_append, List.length_cons, List.length_nil]); omega)) (qrcv1 kd_176) (w := fun _ σ hσ => ?_)
    obtain ⟨m2, rfl, hT2, hG2⟩ := hσ
    refine qr_al rfl rfl (w := ?_)
    refine qr_const rfl (w := ?_)
    refine qr_il rfl rfl (w := ?_)
    refine qr_const rfl (w := ?_)
    refine qr_rem rfl (by omega) (w := ?_)
    refine qr_add rfl (by omega) (w := ?_)
    refine qr_callV rfl (mWrites h hT2 (by (try simp only [List.length_append, List.length_cons, List.length_nil]); omega)) (qrcv1 kd_176) (w := fun _ σ hσ => ?_)
    obtain ⟨m3, rfl, hT3, hG3⟩ := hσ
    refine qW_return rfl ?_
    refine ⟨m3, rfl, ?_, qG_tr hG1 (qG_tr hG2 hG3)⟩
    simp only [List.append_assoc, List.cons_append, List.nil_append] at hT3 ⊢
    exact hT3
  · rw [if_neg h1]
    by_cases h2 : 10 ≤ v
    · rw [if_pos h2]
      refine qr_il rfl rfl (w := ?_)
      refine qr_const rfl (w := ?_)
      refine qr_icle rfl (fun hc => ?_) (fun hc => absurd hc (by omega))
      refine qr_il rfl rfl (w := ?_)
      refine qr_const rfl (w := ?_)
      refine qr_icle rfl (fun hct => absurd hct (by omega)) (fun hct => ?_)
      refine qr_al rfl rfl (w := ?_)
      refine qr_const rfl (w := ?_)
      refine qr_il rfl rfl (w := ?_)
      refine qr_const rfl (w := ?_)
      refine qr_div rfl (by omega) (w := ?_)
      refine qr_const rfl (w := ?_)
      refine qr_rem rfl (by omega) (w := ?_)
      refine qr_add rfl (by omega) (w := ?_)
      refine qr_callV rfl (mWrites h hT0 (by (try simp only [List.length_append, List.length_cons, List.length_nil]); omega)) (qrcv1 kd_176) (w := fun _ σ hσ => ?_)
      obtain ⟨m1, rfl, hT1, hG1⟩ := hσ
      refine qr_al rfl rfl (w := ?_)
      refine qr_const rfl (w := ?_)
      refine qr_il rfl rfl (w := ?_)
      refine qr_const rfl (w := ?_)
      refine qr_rem rfl (by omega) (w := ?_)
      refine qr_add rfl (by omega) (w := ?_)
      refine qr_callV rfl (mWrites h hT1 (by (try simp only [List.length_append, List.length_cons, List.length_nil]); omega)) (qrcv1 kd_176) (w := fun _ σ hσ => ?_)
      obtain ⟨m2, rfl, hT2, hG2⟩ := hσ
      refine qW_return rfl ?_
      refine ⟨m2, rfl, ?_, qG_tr hG1 hG2⟩
      simp only [List.append_assoc, List.cons_append, List.nil_append] at hT2 ⊢
      exact hT2
    · rw [if_neg h2]
      refine qr_il rfl rfl (w := ?_)
      refine qr_const rfl (w := ?_)
      refine qr_icle rfl (fun hc => ?_) (fun hc => absurd hc (by omega))
      refine qr_il rfl rfl (w := ?_)
      refine qr_const rfl (w := ?_)
      refine qr_icle rfl (fun hct => ?_) (fun hct => absurd hct (by omega))
      refine qr_al rfl rfl (w := ?_)
      refine qr_const rfl (w := ?_)
      refine qr_il rfl rfl (w := ?_)
      refine qr_const rfl (w := ?_)
      refine qr_rem rfl (by omega) (w := ?_)
      refine qr_add rfl (by omega) (w := ?_)
      refine qr_callV rfl (mWrites h hT0 (by (try simp only [List.length_append, List.length_cons, List.length_nil]); omega)) (qrcv1 kd_176) (w := fun _ σ hσ => ?_)
      obtain ⟨m1, rfl, hT1, hG1⟩ := hσ
      refine qW_return rfl ?_
      refine ⟨m1, rfl, ?_, hG1⟩
      simp only [List.nil_append] at hT1 ⊢
      exact hT1
/-- the open branches: d of them, the innermost u -/
def qSk (g : Int → Int) (ps : List (Int × Int)) : Nat → Int → Prop
  | 0, u => u = -9 ∧ g 0 = -9
  | d + 1, u => (0 ≤ u ∧ u < ps.length) ∧ g (d + 1 : Nat) = u ∧ qSk g ps d (qOu ps u)
theorem qSk_top {g : Int → Int} {ps : List (Int × Int)} {d : Nat} {u : Int} (h : qSk g ps d u) : g d = u := by
  cases d with
  | zero => exact h.2.trans h.1.symm
  | succ d => exact h.2.1
theorem qSk_eq {g g' : Int → Int} {ps : List (Int × Int)} : ∀ {d : Nat} {u : Int}, qSk g ps d u → (∀ j : Int, 0 ≤ j → j ≤ d → g' j = g j) → qSk g' ps d u := by
  intro d
  induction d with
  | zero => intro u h e; exact ⟨h.1, (e 0 (by omega) (by omega)).trans h.2⟩
  | succ d ih => intro u h e; exact ⟨h.1, (e _ (by omega) (by omega)).trans h.2.1, ih h.2.2 (fun j h0 h1 => e j h0 (by omega))⟩
theorem qSk_dp {g : Int → Int} {ps : List (Int × Int)} : ∀ (n d : Nat) (u : Int), qSk g ps d u → qDp ps n u → d ≤ n := by
  intro n
  induction n with
  | zero =>
    intro d u h hd
    cases d with
    | zero => exact Nat.le_refl _
    | succ d =>
      have e : u = -9 := hd
      have := h.1
      omega
  | succ n ih =>
    intro d u h hd
    cases d with
    | zero => exact Nat.zero_le _
    | succ d =>
      have := h.1
      rcases hd with hd | hd
      · omega
      · have := ih d _ h.2.2 hd
        omega
theorem qSk_clo {g : Int → Int} {ps : List (Int × Int)} : ∀ (n d : Nat) (u : Int), qSk g ps d u → d ≤ n → (qClo ps n u (-9)).1 = List.replicate d 125 := by
  intro n
  induction n with
  | zero =>
    intro d u h hd
    have e : d = 0 := by omega
    subst e
    rfl
  | succ n ih =>
    intro d u h hd
    cases d with
    | zero =>
      simp only [qClo]
      rw [if_pos h.1]
      rfl
    | succ d =>
      have := h.1
      simp only [qClo]
      rw [if_neg (by omega)]
      dsimp only
      rw [ih d _ h.2.2 (by omega), List.replicate_succ]
theorem qClo_n {ps : List (Int × Int)} (t : Int) : ∀ (n : Nat) (u : Int), (qClo ps n u t).1.length ≤ n ∧ (qIn ps n u t → (qClo ps n u t).2 = t) := by
  intro n
  induction n with
  | zero => intro u; exact ⟨Nat.le_refl _, fun h => h⟩
  | succ n ih =>
    intro u
    simp only [qClo]
    have h1 := ih (qOu ps u)
    split
    · rename_i e
      exact ⟨Nat.zero_le _, fun _ => e⟩
    · rename_i e
      refine ⟨by simp only [List.length_cons]; omega, fun h => h1.2 ?_⟩
      rcases h with h | h
      · exact absurd h e
      · exact h.2
theorem mClose_loop (h : qE r) {a : qAS} (hl : qMl a) {s x t lf i p : Int} {Q : qA → qM → Prop} (hp : 0 ≤ p ∧ p < a.1.length) (ht : qOu a.1 p = t) : ∀ (n : Nat) (u : Int) (d : Nat) (c : Int) (l : List Int) (m : Nat → Int → Int), qIn a.1 n u t → qMb (m 177) a → qSk (m 182) a.1 d u → d ≤ 7 → qWt m l → l.length + n < 160 →
    (∀ (m' : Nat → Int → Int) (d' : Nat) (c' : Int), qSk (m' 182) a.1 d' t → d' ≤ d → (c' = if u = t then c else 0) → qWt m' (l ++ (qClo a.1 n u t).1) → qG qPw1 m m' → qW m_Mo_writesAll 82 [qK 176, qI s, qI x, qI d', qI lf, qI c', qI i, qI p] [] (qT0, m', r) Q) →
    qW m_Mo_writesAll 52 [qK 176, qI s, qI x, qI d, qI lf, qI c, qI i, qI p] [] (qT0, m, r) Q := by
  intro n
  induction n with
  | zero =>
    intro u d c l m hi hB hk hd hT hlen K
    have htop := qSk_top hk
    have e : u = t := hi
    have hin := mInnerOf (r := r) h hB hl hp
    refine qr_al rfl rfl (w := ?_)
    refine qr_gr rfl kd_176 (hr := (rf_8_8 h)) (w := ?_)
    refine qr_il rfl rfl (w := ?_)
    refine qr_ia rfl kd_182 (by omega) (w := ?_)
    refine qr_al rfl rfl (w := ?_)
    refine qr_il rfl rfl (w := ?_)
    refine qr_callP rfl hin (qrcv1 kd_176) (w := ?_)
    refine qr_iceq rfl (fun hc => ?_) (fun hc => ?_)
    · exact K m d c (e ▸ hk) (Nat.le_refl _) (by rw [if_pos e]) (by simp only [qClo, List.append_nil]; exact hT) qG_rf
    · exact absurd (by omega) hc
  | succ n ih =>
    intro u d c l m hi hB hk hd hT hlen K
    have htop := qSk_top hk
    have hin := mInnerOf (r := r) h hB hl hp
    have hcl : u = t → qClo a.1 (n + 1) u t = ([], u) := fun e => by simp only [qClo]; rw [if_pos e]
    have hcn : u ≠ t → qClo a.1 (n + 1) u t = (125 :: (qClo a.1 n (qOu a.1 u) t).1, (qClo a.1 n (qOu a.1 u) t).2) := fun e => by simp only [qClo]; rw [if_neg e]
    refine qr_al rfl rfl (w := ?_)
    refine qr_gr rfl kd_176 (hr := (rf_8_8 h)) (w := ?_)
    refine qr_il rfl rfl (w := ?_)
    refine qr_ia rfl kd_182 (by omega) (w := ?_)
    refine qr_al rfl rfl (w := ?_)
    refine qr_il rfl rfl (w := ?_)
    refine qr_callP rfl hin (qrcv1 kd_176) (w := ?_)
    refine qr_iceq rfl (fun hc => ?_) (fun hc => ?_)
    · have e : u = t := by omega
      rw [hcl e] at K
      exact K m d c (e ▸ hk) (Nat.le_refl _) (by rw [if_pos e]) (by rw [List.append_nil]; exact hT) qG_rf
    · refine qr_al rfl rfl (w := ?_)
      refine qr_const rfl (w := ?_)
      refine qr_callV rfl (mWrites h hT (by omega)) (qrcv1 kd_176) (w := fun _ σ hσ => ?_)
      obtain ⟨m1, rfl, hT1, hG1⟩ := hσ
      have e : u ≠ t := by omega
      rw [hcn e] at K
      have hi2 : u ≠ -9 ∧ qIn a.1 n (qOu a.1 u) t := hi.resolve_left e
      have e177 : m1 177 = m 177 := qGw hG1 (by decide)
      have e182 : m1 182 = m 182 := qGw hG1 (by decide)
      cases d with
      | zero => exact absurd hk.1 hi2.1
      | succ d =>
        refine qr_inc3 rfl (by omega) (w := ?_)
        refine qr_const rfl (w := ?_)
        refine qr_is5 rfl (w := ?_)
        refine qr_goto rfl (w := ?_)
        have ed : ((d + 1 : Nat) : Int) + -1 = (d : Int) := by omega
        rw [ed]
        refine ih (qOu a.1 u) d 0 (l ++ [125]) m1 hi2.2 (e177.symm ▸ hB) (e182.symm ▸ hk.2.2) (by omega) hT1 (by rw [List.length_append]; simp only [List.length_cons, List.length_nil]; omega) (fun m' d' c' k1 k2 k3 k4 k5 => ?_)
        refine K m' d' c' k1 (by omega) ?_ ?_ (qG_tr hG1 k5)
        · rw [k3, ite_self]
          exact (if_neg e).symm
        · rw [List.append_assoc] at k4
          exact k4
