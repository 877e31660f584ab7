/-! put and types -/
variable {m : Nat → Int → Int} {r : Nat → Int → Option Nat} {w : qWd}
theorem kd_row : qT0[176]? = some (1, 64) := by decide +kernel
theorem qCp_fr {m' : Nat → Int → Int} {w : qWd} (h : qCp m r w) (hf : qFr (qIv 176 188) m m') : qCp m' r w := by
  obtain ⟨P, f, vs, hs, rd, l3, g, h1, h2, ⟨h3, h4, h5⟩, h6, h7, h8, h9, h10, h11, h12, h13⟩ := h
  have nn : ∀ a, a < 176 → ¬ qIv 176 188 a := by
    intro a ha e
    have e2 : 176 ≤ a ∧ a < 188 := e
    omega
  exact ⟨P, f, vs, hs, rd, l3, g, h1, h2, ⟨qSc_fr h3 hf (fun a g1 g2 => nn a (by omega)), qSh_fr h4 hf (fun a g1 g2 => nn a (by omega)), h5⟩, h6, qRg_fr h7 hf (fun a g1 g2 => nn a (by omega)), h8, qRw_fr h9 hf (nn _ (by omega)) (nn _ (by omega)), qRw_fr h10 hf (nn _ (by omega)) (nn _ (by omega)), qFm_fr h11 hf (nn _ (by omega)) (nn _ (by omega)) (nn _ (by omega)), qHc_fr h2 h12 hf (fun a g1 g2 => nn a (by omega)), h13⟩
theorem qOb_row (h : qOb m r w) {i x : Int} : qOb (qup m 176 i x) r w := by
  refine ⟨qCp_fr h.1 (fun a ha => ?_), h.2⟩
  funext j
  have hne : a ≠ 176 := fun e => ha (by
    subst e
    show 176 ≤ 176 ∧ 176 < 188
    omega)
  simp [qup, hne]
/-- the row: signs from 1 on, marks from 60 on -/
def qTS (m : Nat → Int → Int) (sg : List Int) (M : Nat → Int) : Prop := (∀ k : Nat, k < sg.length → m 176 ((k : Int) + 1) = sg.getD k 0) ∧ ∀ j : Nat, 1 ≤ j → j ≤ 4 → m 176 (59 + (j : Int)) = M j
variable {sg : List Int} {M : Nat → Int}
theorem qTS_eq {m' : Nat → Int → Int} (h : qTS m sg M) (e : m' 176 = m 176) : qTS m' sg M := by
  unfold qTS
  rw [e]
  exact h
theorem qTS_put (h : qTS m sg M) (hl : sg.length < 58) {i c : Int} (hi : i = (sg.length : Nat) + 1) : qTS (qup m 176 i c) (sg ++ [c]) M := by
  subst hi
  refine ⟨fun k hk => ?_, fun j h1 h2 => ?_⟩
  · rw [List.length_append] at hk
    simp only [List.length_cons, List.length_nil] at hk
    rw [List.getD_eq_getElem?_getD]
    by_cases e : k = sg.length
    · subst e
      rw [qup_s, List.getElem?_append_right (Nat.le_refl _), Nat.sub_self]
      rfl
    · rw [qup_i (by omega), List.getElem?_append_left (by omega), ← List.getD_eq_getElem?_getD]
      exact h.1 k (by omega)
  · rw [qup_i (by omega)]
    exact h.2 j h1 h2
theorem qTS_mk (h : qTS m sg M) (hl : sg.length ≤ 58) {d : Nat} {i x : Int} (hi : i = 59 + (d : Int)) : qTS (qup m 176 i x) sg (fun j => if j = d then x else M j) := by
  subst hi
  refine ⟨fun k hk => ?_, fun j h1 h2 => ?_⟩
  · by_cases e : (k : Int) + 1 = 59 + (d : Int)
    · exfalso
      by_cases hd : 1 ≤ d
      · omega
      · exact absurd e (by omega)
    · rw [qup_i e]
      exact h.1 k hk
  · dsimp only
    by_cases e : j = d
    · subst e
      rw [qup_s, if_pos rfl]
    · rw [qup_i (by omega), if_neg e]
      exact h.2 j h1 h2
theorem qTS_get (h : qTS m sg M) {d : Nat} (hd : 1 ≤ d ∧ d ≤ 4) : m 176 (60 + (d : Int) - 1) = M d := by
  have e : 60 + (d : Int) - 1 = 59 + d := by omega
  rw [e]
  exact h.2 d hd.1 hd.2
theorem mk_all : (List.range 16).all (fun a => (List.range 4).all (fun l => decide (qop2 1 (a : Nat) (qop2 2 1 (l : Nat)) ≠ 0 ∧ 0 ≤ qop2 1 (a : Nat) (qop2 2 1 (l : Nat)) ∧ qop2 1 (a : Nat) (qop2 2 1 (l : Nat)) ≤ 15 ∧ qop2 0 (qop2 3 (qop2 1 (a : Nat) (qop2 2 1 (l : Nat))) (l : Nat)) 1 ≠ 0) && (List.range 4).all (fun l' => decide (qop2 0 (qop2 3 (a : Nat) (l' : Nat)) 1 = 0 ∨ qop2 0 (qop2 3 (qop2 1 (a : Nat) (qop2 2 1 (l : Nat))) (l' : Nat)) 1 ≠ 0)))) = true := by decide +kernel
theorem mk_set {a : Int} (ha : 0 ≤ a ∧ a ≤ 15) {l : Nat} (hl : l < 4) : qSetB a l (qop2 1 a (qop2 2 1 l)) ∧ 0 ≤ qop2 1 a (qop2 2 1 l) ∧ qop2 1 a (qop2 2 1 l) ≤ 15 := by
  obtain ⟨n, rfl⟩ : ∃ n : Nat, a = n := ⟨a.toNat, by omega⟩
  have h1 := List.all_eq_true.mp (List.all_eq_true.mp mk_all n (List.mem_range.mpr (by omega))) l (List.mem_range.mpr hl)
  rw [Bool.and_eq_true] at h1
  have h2 := of_decide_eq_true h1.1
  refine ⟨⟨h2.1, h2.2.2.2, fun l' hl' hb => ?_⟩, h2.2.1, h2.2.2.1⟩
  have h3 := of_decide_eq_true (List.all_eq_true.mp h1.2 l' (List.mem_range.mpr hl'))
  rcases h3 with h3 | h3
  · exact absurd h3 hb
  · exact h3
theorem let_of (x : Int) : ∃ l : Nat, l < 4 ∧ qop2 0 (qop2 3 x 16) 3 = l := by
  have h := qop2_and (x := qop2 3 x 16) (y := 3) (by decide) (by decide)
  exact ⟨(qop2 0 (qop2 3 x 16) 3).toNat, by omega, by omega⟩
variable {a : qAS} {hs : List qAS} {t : List Int}
theorem pPut (hO : qOb m r (a, hs, t)) (hS : qTS m sg M) {c : Int} (hc : 1 ≤ c ∧ c ≤ 255) (ht : t.length < 80) (hl : sg.length < 58) : qW m_Lw_put 0 [qK 0, qK 176, qI (sg.length : Nat), qI c] [] (qT0, m, r) (fun x σ => ∃ (m' : Nat → Int → Int) (r' : Nat → Int → Option Nat), σ = (qT0, m', r') ∧ x = qI ((sg ++ [c]).length : Nat) ∧ (qOb m' r' (a, hs, t ++ [c]) ∧ qTS m' (sg ++ [c]) M)) := by
  have hO1 := qOb_row hO (i := (sg.length : Nat) + 1) (x := c)
  have hS1 := qTS_put hS hl (i := (sg.length : Nat) + 1) (c := c) rfl
  have hf : fAppend (a, hs, t) c = ((t.length + 1 : Nat) : Int) := by
    unfold fAppend
    dsimp only
    rw [if_neg (by omega), if_neg (by omega)]
    rfl
  have hg : gAppend (a, hs, t) c = (a, hs, t ++ [c]) := by
    unfold gAppend
    dsimp only
    rw [if_neg (by omega)]
  refine qr_al rfl rfl (w := ?_)
  refine qr_il rfl rfl (w := ?_)
  refine qr_const rfl (w := ?_)
  refine qr_add rfl (by omega) (w := ?_)
  refine qr_il rfl rfl (w := ?_)
  refine qr_ias rfl kd_row (by omega) (w := ?_)
  refine qr_al rfl rfl (w := ?_)
  refine qr_il rfl rfl (w := ?_)
  refine qr_callX rfl (oAppend hO1) (qrcv1 kd_0) (w := ?_)
  rw [hf, hg]
  intro m r ⟨hO, hm⟩
  refine qr_ifle rfl (fun hc => absurd hc (by omega)) (fun hc => ?_)
  refine qr_il rfl rfl (w := ?_)
  refine qr_const rfl (w := ?_)
  refine qr_add rfl (by omega) (w := ?_)
  refine qr_goto rfl (w := ?_)
  refine qW_ireturn rfl ?_
  refine ⟨m, r, rfl, ?_, hO, qTS_eq hS1 hm⟩
  rw [List.length_append]
  rfl
theorem pSpace (hO : qOb m r (a, hs, t)) (hS : qTS m sg M) (ht : t.length < 80) : qW m_LR_append 0 [qK 0, qI 32] [] (qT0, m, r) (fun x σ => ∃ (m' : Nat → Int → Int) (r' : Nat → Int → Option Nat), σ = (qT0, m', r') ∧ x = qI ((t.length + 1 : Nat) : Int) ∧ (qOb m' r' (a, hs, t ++ [32]) ∧ qTS m' sg M)) := by
  have hf : fAppend (a, hs, t) 32 = ((t.length + 1 : Nat) : Int) := by
    unfold fAppend
    dsimp only
    rw [if_neg (by omega), if_neg (by omega)]
    rfl
  have hg : gAppend (a, hs, t) 32 = (a, hs, t ++ [32]) := by
    unfold gAppend
    dsimp only
    rw [if_neg (by omega)]
  have h1 := oAppend hO (c := 32)
  rw [hf, hg] at h1
  exact qW_mono h1 (fun x σ ⟨m', r', e1, e2, e3, e4⟩ => ⟨m', r', e1, e2, e3, qTS_eq hS e4⟩)
theorem ty_C {Q : qA → qM → Prop} {q had x1 kd : Int} {d i l : Nat} (hl : l < 4) (hd : 1 ≤ d ∧ d ≤ 4) (hi : i ≤ 8) (hM : ∀ j, 0 ≤ M j ∧ M j ≤ 15) (hO : qOb m r (a, hs, t)) (hS : qTS m sg M) (ht : t.length ≤ 3 + 6 * i) (hsg : sg.length ≤ 2 + 4 * i)
    (k1 : d < 4 → ∀ (had : Int) (m : Nat → Int → Int) (r : Nat → Int → Option Nat), qOb m r (a, hs, t ++ [97 + (l : Int)] ++ [58] ++ [123]) → qTS m (sg ++ [97 + (l : Int)] ++ [58] ++ [123]) (fun j => if j = d + 1 then 0 else M j) → qW m_Lw_types 306 [qK 0, qI q, qK 176, qI had, qI x1, qI ((sg ++ [97 + (l : Int)] ++ [58] ++ [123]).length : Nat), qI ((d + 1 : Nat) : Int), qI i, qI l, qI kd] [] (qT0, m, r) Q)
    (k2 : ∀ (had v : Int) (sp2 : List Int) (m : Nat → Int → Int) (r : Nat → Int → Option Nat), (sp2 = [] ∨ sp2 = [32]) → (0 ≤ v ∧ v ≤ 9) → qOb m r (a, hs, t ++ [97 + (l : Int)] ++ [58] ++ sp2 ++ [48 + v]) → qTS m (sg ++ [97 + (l : Int)] ++ [58] ++ [48 + v]) M → qW m_Lw_types 306 [qK 0, qI q, qK 176, qI had, qI x1, qI ((sg ++ [97 + (l : Int)] ++ [58] ++ [48 + v]).length : Nat), qI d, qI i, qI l, qI kd] [] (qT0, m, r) Q) :
    qW m_Lw_types 201 [qK 0, qI q, qK 176, qI had, qI x1, qI (sg.length : Nat), qI d, qI i, qI l, qI kd] [] (qT0, m, r) Q := by
  have hv := fUp_rng (x := qop2 3 x1 8) (y := 10) (by decide)
  have hleaf : ∀ (m : Nat → Int → Int) (r : Nat → Int → Option Nat) (had : Int), qOb m r (a, hs, t ++ [97 + (l : Int)] ++ [58]) → qTS m (sg ++ [97 + (l : Int)] ++ [58]) M → qW m_Lw_types 263 [qK 0, qI q, qK 176, qI had, qI x1, qI ((sg ++ [97 + (l : Int)] ++ [58]).length : Nat), qI d, qI i, qI l, qI kd] [] (qT0, m, r) Q := by
    intro m r had hO hS
    have hdig : ∀ (m : Nat → Int → Int) (r : Nat → Int → Option Nat) (had : Int) (sp2 : List Int), (sp2 = [] ∨ sp2 = [32]) → sp2.length ≤ 1 → qOb m r (a, hs, t ++ [97 + (l : Int)] ++ [58] ++ sp2) → qTS m (sg ++ [97 + (l : Int)] ++ [58]) M → qW m_Lw_types 284 [qK 0, qI q, qK 176, qI had, qI x1, qI ((sg ++ [97 + (l : Int)] ++ [58]).length : Nat), qI d, qI i, qI l, qI kd] [] (qT0, m, r) Q := by
      intro m r had sp2 hsp hsl hO hS
      refine qr_al rfl rfl (w := ?_)
      refine qr_al rfl rfl (w := ?_)
      refine qr_il rfl rfl (w := ?_)
      refine qr_const rfl (w := ?_)
      refine qr_il rfl rfl (w := ?_)
      refine qr_const rfl (w := ?_)
      refine qr_op2 rfl (w := ?_)
      refine qr_const rfl (w := ?_)
      refine qr_callP rfl (pUp (x := qop2 3 x1 8) (y := 10) (by decide)) (by rfl) (w := ?_)
      refine qr_add rfl (by omega) (w := ?_)
      refine qr_callX rfl (pPut hO hS (c := (48 + fUp (qop2 3 x1 8) 10)) (by omega) (by first | omega | (simp only [List.length_append, List.length_cons, List.length_nil] at *; omega)) (by first | omega | (simp only [List.length_append, List.length_cons, List.length_nil] at *; omega))) (by rfl) (w := ?_)
      intro m r ⟨hO, hS⟩
      refine qr_is5 rfl (w := ?_)
      exact k2 had _ sp2 m r hsp ⟨hv.1, by omega⟩ hO hS
    refine qr_il rfl rfl (w := ?_)
    refine qr_const rfl (w := ?_)
    refine qr_op2 rfl (w := ?_)
    refine qr_const rfl (w := ?_)
    refine qr_op2 rfl (w := ?_)
    refine qr_ifne rfl (fun hc => ?_) (fun hc => ?_)
    · refine qr_il rfl rfl (w := ?_)
      refine qr_is3 rfl (w := ?_)
      first | exact hdig m r _ [32] (Or.inr rfl) (Nat.le_refl _) hO hS | exact hdig m r _ [] (Or.inl rfl) (Nat.zero_le _) (by rw [List.append_nil]; exact hO) hS
    · refine qr_al rfl rfl (w := ?_)
      refine qr_const rfl (w := ?_)
      refine qr_callX rfl (pSpace hO hS (by first | omega | (simp only [List.length_append, List.length_cons, List.length_nil] at *; omega))) (qrcv1 kd_0) (w := ?_)
      intro m r ⟨hO, hS⟩
      refine qr_goto rfl (w := ?_)
      refine qr_is3 rfl (w := ?_)
      first | exact hdig m r _ [32] (Or.inr rfl) (Nat.le_refl _) hO hS | exact hdig m r _ [] (Or.inl rfl) (Nat.zero_le _) (by rw [List.append_nil]; exact hO) hS
  refine qr_al rfl rfl (w := ?_)
  refine qr_al rfl rfl (w := ?_)
  refine qr_il rfl rfl (w := ?_)
  refine qr_const rfl (w := ?_)
  refine qr_il rfl rfl (w := ?_)
  refine qr_add rfl (by omega) (w := ?_)
  refine qr_callX rfl (pPut hO hS (c := (97 + (l : Int))) (by omega) (by first | omega | (simp only [List.length_append, List.length_cons, List.length_nil] at *; omega)) (by first | omega | (simp only [List.length_append, List.length_cons, List.length_nil] at *; omega))) (by rfl) (w := ?_)
  intro m r ⟨hO, hS⟩
  refine qr_is5 rfl (w := ?_)
  refine qr_al rfl rfl (w := ?_)
  refine qr_al rfl rfl (w := ?_)
  refine qr_il rfl rfl (w := ?_)
  refine qr_const rfl (w := ?_)
  refine qr_callX rfl (pPut hO hS (c := 58) (by omega) (by first | omega | (simp only [List.length_append, List.length_cons, List.length_nil] at *; omega)) (by first | omega | (simp only [List.length_append, List.length_cons, List.length_nil] at *; omega))) (by rfl) (w := ?_)
  intro m r ⟨hO, hS⟩
  refine qr_is5 rfl (w := ?_)
  refine qr_il rfl rfl (w := ?_)
  refine qr_const rfl (w := ?_)
  refine qr_icge rfl (fun hc => ?_) (fun hc => ?_)
  · exact hleaf m r _ hO hS
  · refine qr_il rfl rfl (w := ?_)
    refine qr_const rfl (w := ?_)
    refine qr_icge rfl (fun hcf => ?_) (fun hcf => ?_)
    · exact hleaf m r _ hO hS
    · refine qr_al rfl rfl (w := ?_)
      refine qr_al rfl rfl (w := ?_)
      refine qr_il rfl rfl (w := ?_)
      refine qr_const rfl (w := ?_)
      refine qr_callX rfl (pPut hO hS (c := 123) (by omega) (by first | omega | (simp only [List.length_append, List.length_cons, List.length_nil] at *; omega)) (by first | omega | (simp only [List.length_append, List.length_cons, List.length_nil] at *; omega))) (by rfl) (w := ?_)
      intro m r ⟨hO, hS⟩
      refine qr_is5 rfl (w := ?_)
      refine qr_al rfl rfl (w := ?_)
      refine qr_const rfl (w := ?_)
      refine qr_il rfl rfl (w := ?_)
      refine qr_add rfl (by omega) (w := ?_)
      refine qr_const rfl (w := ?_)
      refine qr_ias rfl kd_row (by omega) (w := ?_)
      refine qr_inc6 rfl (by omega) (w := ?_)
      refine qr_goto rfl (w := ?_)
      have e1 : (d : Int) + 1 = ((d + 1 : Nat) : Int) := rfl
      rw [e1]
      exact k1 (by omega) _ _ r (qOb_row hO) (qTS_mk hS (by first | omega | (simp only [List.length_append, List.length_cons, List.length_nil] at *; omega)) (d := d + 1) (by omega))
theorem ty_loop {Q : qA → qM → Prop} {q : Int} (hw : qWp a.1) (hn : a.1.Nodup) : ∀ (k i : Nat) (t sg : List Int) (M : Nat → Int) (d : Nat) (had x : Int) (m : Nat → Int → Int) (r : Nat → Int → Option Nat) (x8 x9 : qA), qOb m r (a, hs, t) → qTS m sg M → qTyJ a.1 t sg M d i → (∀ j, 0 ≤ M j ∧ M j ≤ 15) → i + k = 9 → (1 ≤ d ∧ d ≤ 4) → t.length ≤ 1 + 6 * i → sg.length ≤ 1 + 4 * i → (∀ (t sg : List Int) (M : Nat → Int) (d : Nat) (had x : Int) (m : Nat → Int → Int) (r : Nat → Int → Option Nat) (x8 x9 : qA), qOb m r (a, hs, t) → qTS m sg M → qTyJ a.1 t sg M d 9 → (1 ≤ d ∧ d ≤ 4) → t.length ≤ 55 → sg.length ≤ 37 → qW m_Lw_types 312 [qK 0, qI q, qK 176, qI had, qI x, qI (sg.length : Nat), qI d, qI (9 : Nat), x8, x9] [] (qT0, m, r) Q) → qW m_Lw_types 48 [qK 0, qI q, qK 176, qI had, qI x, qI (sg.length : Nat), qI d, qI i, x8, x9] [] (qT0, m, r) Q := by
  intro k
  induction k with
  | zero =>
    intro i t sg M d had x m r x8 x9 hO hS hJ hM hik hd ht hsg kk
    have hi0 : i = 9 := by omega
    subst hi0
    refine qr_il rfl rfl (w := ?_)
    refine qr_const rfl (w := ?_)
    refine qr_icge rfl (fun hc => ?_) (fun hc => absurd hc (by omega))
    exact kk t sg M d had x m r _ _ hO hS hJ hd (by omega) (by omega)
  | succ k ih =>
    intro i t sg M d had x m r x8 x9 hO hS hJ hM hik hd ht hsg kk
    refine qr_il rfl rfl (w := ?_)
    refine qr_const rfl (w := ?_)
    refine qr_icge rfl (fun hc => absurd hc (by omega)) (fun hc => ?_)
    refine qr_const rfl (w := ?_)
    refine qr_il rfl rfl (w := ?_)
    refine qr_op2 rfl (w := ?_)
    refine qr_const rfl (w := ?_)
    refine qr_op2 rfl (w := ?_)
    refine qr_is4 rfl (w := ?_)
    generalize qop2 4 (qop2 5 1103515245 x) 12345 = x1
    obtain ⟨l, hl, hle⟩ := let_of x1
    have hkd := qop2_and (x := qop2 3 x1 20) (y := 7) (by decide) (by decide)
    generalize hkd0 : qop2 0 (qop2 3 x1 20) 7 = kd at hkd
    have B : ∀ (m : Nat → Int → Int) (r : Nat → Int → Option Nat), qOb m r (a, hs, t) → qTS m sg M → qW m_Lw_types 113 [qK 0, qI q, qK 176, qI had, qI x1, qI (sg.length : Nat), qI d, qI i, qI l, qI kd] [] (qT0, m, r) Q := by
      intro m r hO hS
      refine qr_al rfl rfl (w := ?_)
      refine qr_const rfl (w := ?_)
      refine qr_il rfl rfl (w := ?_)
      refine qr_add rfl (by omega) (w := ?_)
      refine qr_const rfl (w := ?_)
      refine qr_sub rfl (by omega) (w := ?_)
      refine qr_ia rfl kd_row (by omega) (w := ?_)
      rw [qTS_get hS hd]
      refine qr_il rfl rfl (w := ?_)
      refine qr_op2 rfl (w := ?_)
      refine qr_const rfl (w := ?_)
      refine qr_op2 rfl (w := ?_)
      refine qr_ifne rfl (fun hc => ?_) (fun hc => ?_)
      · refine qr_inc7 rfl (by omega) (w := ?_)
        refine qr_goto rfl (w := ?_)
        exact ih (i + 1) _ _ _ d _ _ m r _ _ hO hS (ty_mono hJ (by omega)) hM (by omega) hd (by omega) (by omega) kk
      · have hbit : qop2 0 (qop2 3 (M d) l) 1 = 0 := by omega
        have D : ∀ (m : Nat → Int → Int) (r : Nat → Int → Option Nat) (sep : List Int), ((M d = 0 ∧ sep = []) ∨ (M d ≠ 0 ∧ sep = [44])) → sep.length ≤ 1 → qOb m r (a, hs, t ++ sep) → qTS m (sg ++ sep) M → qW m_Lw_types 156 [qK 0, qI q, qK 176, qI had, qI x1, qI (sg.length : Nat), qI d, qI i, qI l, qI kd] [qI ((sg ++ sep).length : Nat)] (qT0, m, r) Q := by
          intro m r sep hsep hsepl hO hS
          have CX : ∀ (m : Nat → Int → Int) (r : Nat → Int → Option Nat) (had : Int) (sp : List Int), (sp = [] ∨ sp = [32]) → sp.length ≤ 1 → qOb m r (a, hs, t ++ sep ++ sp) → qTS m (sg ++ sep) (fun j => if j = d then qop2 1 (M d) (qop2 2 1 l) else M j) → qW m_Lw_types 201 [qK 0, qI q, qK 176, qI had, qI x1, qI ((sg ++ sep).length : Nat), qI d, qI i, qI l, qI kd] [] (qT0, m, r) Q := by
            intro m r had sp hsp hspl hO hS
            have hms := mk_set (hM d) hl
            have hM2 : ∀ j, 0 ≤ (fun j => if j = d then qop2 1 (M d) (qop2 2 1 l) else M j) j ∧ (fun j => if j = d then qop2 1 (M d) (qop2 2 1 l) else M j) j ≤ 15 := fun j => by
              dsimp only
              split
              · exact hms.2
              · exact hM j
            have hlow : ∀ j, j < d → (fun j => if j = d then qop2 1 (M d) (qop2 2 1 l) else M j) j = M j := fun j hj => if_neg (by omega)
            have hlow3 : ∀ j, j < d → (fun j => if j = d + 1 then 0 else (fun j => if j = d then qop2 1 (M d) (qop2 2 1 l) else M j) j) j = M j := fun j hj => by
              dsimp only
              rw [if_neg (by omega), if_neg (by omega)]
            have hset : qSetB (M d) l ((fun j => if j = d then qop2 1 (M d) (qop2 2 1 l) else M j) d) := by
              dsimp only
              rw [if_pos rfl]
              exact hms.1
            have hset3 : qSetB (M d) l ((fun j => if j = d + 1 then 0 else (fun j => if j = d then qop2 1 (M d) (qop2 2 1 l) else M j) j) d) := by
              dsimp only
              rw [if_neg (by omega), if_pos rfl]
              exact hms.1
            refine ty_C hl hd (by omega) hM2 hO hS (by simp only [List.length_append]; omega) (by simp only [List.length_append]; omega) (fun hd4 had m r hO hS => ?_) (fun had v sp2 m r hsp2 hv hO hS => ?_)
            · have hJ2 := ty_open hw hn (by omega) hd4 hJ hsep hsp hl hbit hlow3 hset3 (M' := (fun j => if j = d + 1 then 0 else (fun j => if j = d then qop2 1 (M d) (qop2 2 1 l) else M j) j)) (if_pos rfl)
              have hM3 : ∀ j, 0 ≤ (fun j => if j = d + 1 then 0 else (fun j => if j = d then qop2 1 (M d) (qop2 2 1 l) else M j) j) j ∧ (fun j => if j = d + 1 then 0 else (fun j => if j = d then qop2 1 (M d) (qop2 2 1 l) else M j) j) j ≤ 15 := fun j => by
                dsimp only
                split
                · omega
                · exact hM2 j
              refine qr_inc7 rfl (by omega) (w := ?_)
              refine qr_goto rfl (w := ?_)
              exact ih (i + 1) _ _ _ (d + 1) _ _ m r _ _ hO hS (ty_mono hJ2 (by omega)) hM3 (by omega) (by omega) (by simp only [List.length_append, List.length_cons, List.length_nil]; omega) (by simp only [List.length_append, List.length_cons, List.length_nil]; omega) kk
            · have hJ2 := ty_leaf hw hn (by omega) (by omega) hJ hsep hsp hsp2 hl hbit hlow hset hv (M' := (fun j => if j = d then qop2 1 (M d) (qop2 2 1 l) else M j))
              have hsp2l : sp2.length ≤ 1 := by
                rcases hsp2 with e | e
                · rw [e]
                  exact Nat.zero_le _
                · rw [e]
                  exact Nat.le_refl _
              refine qr_inc7 rfl (by omega) (w := ?_)
              refine qr_goto rfl (w := ?_)
              exact ih (i + 1) _ _ _ d _ _ m r _ _ hO hS hJ2 hM2 (by omega) hd (by simp only [List.length_append, List.length_cons, List.length_nil]; omega) (by simp only [List.length_append, List.length_cons, List.length_nil]; omega) kk
          refine qr_is5 rfl (w := ?_)
          refine qr_al rfl rfl (w := ?_)
          refine qr_const rfl (w := ?_)
          refine qr_il rfl rfl (w := ?_)
          refine qr_add rfl (by omega) (w := ?_)
          refine qr_const rfl (w := ?_)
          refine qr_sub rfl (by omega) (w := ?_)
          refine qr_dup2 rfl (w := ?_)
          refine qr_ia rfl kd_row (by omega) (w := ?_)
          rw [qTS_get hS hd]
          refine qr_const rfl (w := ?_)
          refine qr_il rfl rfl (w := ?_)
          refine qr_op2 rfl (w := ?_)
          refine qr_op2 rfl (w := ?_)
          refine qr_ias rfl kd_row (by omega) (w := ?_)
          have hS := qTS_mk hS (by simp only [List.length_append, List.length_cons, List.length_nil] at *; omega) (d := d) (i := 60 + (d : Int) - 1) (x := qop2 1 (M d) (qop2 2 1 l)) (by omega)
          have hO := qOb_row hO (i := 60 + (d : Int) - 1) (x := qop2 1 (M d) (qop2 2 1 l))
          refine qr_il rfl rfl (w := ?_)
          refine qr_const rfl (w := ?_)
          refine qr_op2 rfl (w := ?_)
          refine qr_const rfl (w := ?_)
          refine qr_op2 rfl (w := ?_)
          refine qr_ifne rfl (fun hc => ?_) (fun hc => ?_)
          · refine qr_il rfl rfl (w := ?_)
            refine qr_is3 rfl (w := ?_)
            first | exact CX _ r _ [32] (Or.inr rfl) (Nat.le_refl _) hO hS | exact CX _ r _ [] (Or.inl rfl) (Nat.zero_le _) (by rw [List.append_nil]; exact hO) hS
          · refine qr_il rfl rfl (w := ?_)
            refine qr_const rfl (w := ?_)
            refine qr_icge rfl (fun hcf => ?_) (fun hcf => ?_)
            · refine qr_il rfl rfl (w := ?_)
              refine qr_is3 rfl (w := ?_)
              first | exact CX _ r _ [32] (Or.inr rfl) (Nat.le_refl _) hO hS | exact CX _ r _ [] (Or.inl rfl) (Nat.zero_le _) (by rw [List.append_nil]; exact hO) hS
            · refine qr_al rfl rfl (w := ?_)
              refine qr_const rfl (w := ?_)
              refine qr_callX rfl (pSpace hO hS (by first | omega | (simp only [List.length_append, List.length_cons, List.length_nil] at *; omega))) (qrcv1 kd_0) (w := ?_)
              intro m r ⟨hO, hS⟩
              refine qr_goto rfl (w := ?_)
              refine qr_is3 rfl (w := ?_)
              first | exact CX _ r _ [32] (Or.inr rfl) (Nat.le_refl _) hO hS | exact CX _ r _ [] (Or.inl rfl) (Nat.zero_le _) (by rw [List.append_nil]; exact hO) hS
        refine qr_al rfl rfl (w := ?_)
        refine qr_const rfl (w := ?_)
        refine qr_il rfl rfl (w := ?_)
        refine qr_add rfl (by omega) (w := ?_)
        refine qr_const rfl (w := ?_)
        refine qr_sub rfl (by omega) (w := ?_)
        refine qr_ia rfl kd_row (by omega) (w := ?_)
        rw [qTS_get hS hd]
        refine qr_ifle rfl (fun hcf => ?_) (fun hcf => ?_)
        · refine qr_il rfl rfl (w := ?_)
          first | exact D m r [44] (Or.inr ⟨by omega, rfl⟩) (Nat.le_refl _) hO hS | (have h9 := D m r [] (Or.inl ⟨by have := hM d; omega, rfl⟩) (Nat.zero_le _) (by rw [List.append_nil]; exact hO) (by rw [List.append_nil]; exact hS); rw [List.append_nil] at h9; exact h9)
        · refine qr_al rfl rfl (w := ?_)
          refine qr_al rfl rfl (w := ?_)
          refine qr_il rfl rfl (w := ?_)
          refine qr_const rfl (w := ?_)
          refine qr_callX rfl (pPut hO hS (c := 44) (by omega) (by first | omega | (simp only [List.length_append, List.length_cons, List.length_nil] at *; omega)) (by first | omega | (simp only [List.length_append, List.length_cons, List.length_nil] at *; omega))) (by rfl) (w := ?_)
          intro m r ⟨hO, hS⟩
          refine qr_goto rfl (w := ?_)
          first | exact D m r [44] (Or.inr ⟨by omega, rfl⟩) (Nat.le_refl _) hO hS | (have h9 := D m r [] (Or.inl ⟨by have := hM d; omega, rfl⟩) (Nat.zero_le _) (by rw [List.append_nil]; exact hO) (by rw [List.append_nil]; exact hS); rw [List.append_nil] at h9; exact h9)
    refine qr_il rfl rfl (w := ?_)
    refine qr_const rfl (w := ?_)
    refine qr_op2 rfl (w := ?_)
    refine qr_const rfl (w := ?_)
    refine qr_op2 rfl (w := ?_)
    rw [hle]
    refine qr_is8 rfl (w := ?_)
    refine qr_il rfl rfl (w := ?_)
    refine qr_const rfl (w := ?_)
    refine qr_op2 rfl (w := ?_)
    refine qr_const rfl (w := ?_)
    refine qr_op2 rfl (w := ?_)
    rw [hkd0]
    refine qr_is9 rfl (w := ?_)
    refine qr_il rfl rfl (w := ?_)
    refine qr_ifne rfl (fun hcf => ?_) (fun hcf => ?_)
    · exact B m r hO hS
    · refine qr_il rfl rfl (w := ?_)
      refine qr_const rfl (w := ?_)
      refine qr_icle rfl (fun hcff => ?_) (fun hcff => ?_)
      · exact B m r hO hS
      · refine qr_al rfl rfl (w := ?_)
        refine qr_al rfl rfl (w := ?_)
        refine qr_il rfl rfl (w := ?_)
        refine qr_const rfl (w := ?_)
        refine qr_callX rfl (pPut hO hS (c := 125) (by omega) (by first | omega | (simp only [List.length_append, List.length_cons, List.length_nil] at *; omega)) (by first | omega | (simp only [List.length_append, List.length_cons, List.length_nil] at *; omega))) (by rfl) (w := ?_)
        intro m r ⟨hO, hS⟩
        refine qr_is5 rfl (w := ?_)
        refine qr_inc6 rfl (by omega) (w := ?_)
        refine qr_goto rfl (w := ?_)
        have e1 : (d : Int) + -1 = ((d - 1 : Nat) : Int) := by omega
        rw [e1]
        obtain ⟨d, rfl⟩ : ∃ e : Nat, d = e + 2 := ⟨d - 2, by omega⟩
        have hJ2 := ty_close hw hn (by omega) hJ
        refine qr_inc7 rfl (by omega) (w := ?_)
        refine qr_goto rfl (w := ?_)
        exact ih (i + 1) _ _ _ (d + 1) _ _ m r _ _ hO hS (ty_mono hJ2 (by omega)) hM (by omega) (by omega) (by simp only [List.length_append, List.length_cons, List.length_nil]; omega) (by simp only [List.length_append, List.length_cons, List.length_nil]; omega) kk
theorem ty_fin {Q : qA → qM → Prop} {q had x d6 : Int} {x8 x9 : qA} (hw : qWp a.1) (hn : a.1.Nodup) : ∀ (e : Nat) (t sg : List Int) (M : Nat → Int) (m : Nat → Int → Int) (r : Nat → Int → Option Nat), qOb m r (a, hs, t) → qTS m sg M → qTyJ a.1 t sg M (e + 1) 9 → t.length + e ≤ 70 → sg.length + e ≤ 50 → (∀ (m : Nat → Int → Int) (r : Nat → Int → Option Nat) (t sg : List Int) (M : Nat → Int) (P : List (Int × Int)) (fs ns : List Int) (op nm : Int), qOb m r (a, hs, t) → qTS m sg M → qGo t (qSt0 a.1) 0 = (t.length, (P, fs, ns, 7, 0, op, nm)) → sg = qText P (qnvL ns) fs → 1 ≤ sg.length → sg.length ≤ 51 → qW m_Lw_types 338 [qK 0, qI q, qK 176, qI had, qI x, qI (sg.length : Nat), qI d6, qI 0, x8, x9] [] (qT0, m, r) Q) → qW m_Lw_types 316 [qK 0, qI q, qK 176, qI had, qI x, qI (sg.length : Nat), qI d6, qI ((e + 1 : Nat) : Int), x8, x9] [] (qT0, m, r) Q := by
  intro e
  induction e with
  | zero =>
    intro t sg M m r hO hS hJ ht hsg kk
    obtain ⟨P, fs, ns, op, nm, g1, g2⟩ := ty_end hw hn (by omega) hJ
    refine qr_il rfl rfl (w := ?_)
    refine qr_ifle rfl (fun hc => absurd hc (by omega)) (fun hc => ?_)
    refine qr_al rfl rfl (w := ?_)
    refine qr_al rfl rfl (w := ?_)
    refine qr_il rfl rfl (w := ?_)
    refine qr_const rfl (w := ?_)
    refine qr_callX rfl (pPut hO hS (c := 125) (by omega) (by first | omega | (simp only [List.length_append, List.length_cons, List.length_nil] at *; omega)) (by first | omega | (simp only [List.length_append, List.length_cons, List.length_nil] at *; omega))) (by rfl) (w := ?_)
    intro m r ⟨hO, hS⟩
    refine qr_is5 rfl (w := ?_)
    refine qr_inc7 rfl (by omega) (w := ?_)
    refine qr_goto rfl (w := ?_)
    refine qr_il rfl rfl (w := ?_)
    refine qr_ifle rfl (fun hc => ?_) (fun hc => absurd hc (by omega))
    exact kk m r _ _ M P fs ns op nm hO hS g1 g2 (by rw [List.length_append]; simp only [List.length_cons, List.length_nil]; omega) (by rw [List.length_append]; simp only [List.length_cons, List.length_nil]; omega)
  | succ e ih =>
    intro t sg M m r hO hS hJ ht hsg kk
    have hJ2 := ty_close hw hn (by omega) hJ
    refine qr_il rfl rfl (w := ?_)
    refine qr_ifle rfl (fun hc => absurd hc (by omega)) (fun hc => ?_)
    refine qr_al rfl rfl (w := ?_)
    refine qr_al rfl rfl (w := ?_)
    refine qr_il rfl rfl (w := ?_)
    refine qr_const rfl (w := ?_)
    refine qr_callX rfl (pPut hO hS (c := 125) (by omega) (by first | omega | (simp only [List.length_append, List.length_cons, List.length_nil] at *; omega)) (by first | omega | (simp only [List.length_append, List.length_cons, List.length_nil] at *; omega))) (by rfl) (w := ?_)
    intro m r ⟨hO, hS⟩
    refine qr_is5 rfl (w := ?_)
    refine qr_inc7 rfl (by omega) (w := ?_)
    refine qr_goto rfl (w := ?_)
    have e1 : ((e + 1 + 1 : Nat) : Int) + -1 = ((e + 1 : Nat) : Int) := by omega
    rw [e1]
    exact ih _ _ M m r hO hS hJ2 (by rw [List.length_append]; simp only [List.length_cons, List.length_nil]; omega) (by rw [List.length_append]; simp only [List.length_cons, List.length_nil]; omega) kk
/-- what types leaves: a text that is read, its signs in the row -/
def qTyp (w : qWd) (m' : Nat → Int → Int) (r' : Nat → Int → Option Nat) : Prop := ∃ (t sg : List Int), qOb m' r' (w.1, w.2.1, t) ∧ m' 176 0 = (sg.length : Nat) ∧ (∀ k : Nat, k < sg.length → m' 176 ((k : Int) + 1) = sg.getD k 0) ∧ 1 ≤ sg.length ∧ sg.length ≤ 51 ∧ ∃ (P : List (Int × Int)) (fs ns : List Int) (op nm : Int), qGo t (qSt0 w.1.1) 0 = (t.length, (P, fs, ns, 7, 0, op, nm)) ∧ sg = qText P (qnvL ns) fs
theorem pTypes (hO : qOb m r w) {q : Int} : qW m_Lw_types 0 [qK 0, qI q, qK 176, none, none, none, none, none, none, none] [] (qT0, m, r) (fun x σ => ∃ (m' : Nat → Int → Int) (r' : Nat → Int → Option Nat), σ = (qT0, m', r') ∧ x = none ∧ qTyp w m' r') := by
  have hw : qWp w.1.1 := hO.2.1.1.1.1
  have hn : w.1.1.Nodup := hO.2.1.2.1
  have hgc : gClear w = (w.1, w.2.1, []) := rfl
  refine qr_al rfl rfl (w := ?_)
  refine qr_callX rfl (oClearText hO) (qrcv1 kd_0) (w := ?_)
  rw [hgc]
  intro m r ⟨hO, hm⟩
  refine qr_is3 rfl (w := ?_)
  refine qr_il rfl rfl (w := ?_)
  refine qr_is4 rfl (w := ?_)
  refine qr_const rfl (w := ?_)
  refine qr_is5 rfl (w := ?_)
  refine qr_const rfl (w := ?_)
  refine qr_is6 rfl (w := ?_)
  refine qr_al rfl rfl (w := ?_)
  refine qr_const rfl (w := ?_)
  refine qr_const rfl (w := ?_)
  refine qr_ias rfl kd_row (by omega) (w := ?_)
  refine qr_al rfl rfl (w := ?_)
  refine qr_const rfl (w := ?_)
  refine qr_const rfl (w := ?_)
  refine qr_ias rfl kd_row (by omega) (w := ?_)
  refine qr_al rfl rfl (w := ?_)
  refine qr_const rfl (w := ?_)
  refine qr_const rfl (w := ?_)
  refine qr_ias rfl kd_row (by omega) (w := ?_)
  refine qr_al rfl rfl (w := ?_)
  refine qr_const rfl (w := ?_)
  refine qr_const rfl (w := ?_)
  refine qr_ias rfl kd_row (by omega) (w := ?_)
  have hS : qTS (qup (qup (qup (qup m 176 60 0) 176 61 0) 176 62 0) 176 63 0) [] (fun _ => 0) := by
    refine ⟨fun k hk => absurd hk (Nat.not_lt_zero _), fun j h1 h2 => ?_⟩
    have hj : j = 1 ∨ j = 2 ∨ j = 3 ∨ j = 4 := by omega
    rcases hj with rfl | rfl | rfl | rfl <;> simp [qup]
  have hO := qOb_row (qOb_row (qOb_row (qOb_row hO (i := 60) (x := 0)) (i := 61) (x := 0)) (i := 62) (x := 0)) (i := 63) (x := 0)
  refine qr_al rfl rfl (w := ?_)
  refine qr_al rfl rfl (w := ?_)
  refine qr_il rfl rfl (w := ?_)
  refine qr_const rfl (w := ?_)
  refine qr_callX rfl (pPut (sg := []) hO hS (c := 123) (by omega) (Nat.zero_lt_succ _) (Nat.zero_lt_succ _)) (by rfl) (w := ?_)
  intro m r ⟨hO, hS⟩
  refine qr_is5 rfl (w := ?_)
  refine qr_const rfl (w := ?_)
  refine qr_is7 rfl (w := ?_)
  refine ty_loop (a := w.1) (hs := w.2.1) hw hn 9 0 [123] [123] (fun _ => 0) 1 _ _ m r _ _ hO hS (ty_0 rfl) (fun _ => ⟨Int.le_refl _, by decide⟩) (by omega) (by omega) (by simp) (by simp) (fun t sg M d had x m r x8 x9 hO hS hJ hd ht hsg => ?_)
  refine qr_il rfl rfl (w := ?_)
  refine qr_is7 rfl (w := ?_)
  obtain ⟨d, rfl⟩ : ∃ e : Nat, d = e + 1 := ⟨d - 1, by omega⟩
  refine ty_fin hw hn d t sg M m r hO hS hJ (by omega) (by omega) (fun m r t sg M P fs ns op nm hO hS g1 g2 g3 g4 => ?_)
  refine qr_al rfl rfl (w := ?_)
  refine qr_const rfl (w := ?_)
  refine qr_il rfl rfl (w := ?_)
  refine qr_ias rfl kd_row (by omega) (w := ?_)
  refine qW_return rfl ⟨_, _, rfl, rfl, t, sg, qOb_row hO, qup_s, fun k hk => ?_, g3, g4, P, fs, ns, op, nm, g1, g2⟩
  rw [qup_i (by omega)]
  exact hS.1 k hk
