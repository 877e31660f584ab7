/-! The class's reading against the reference's arrays -/
variable {m : Nat → Int → Int} {r : Nat → Int → Option Nat}
def qOk : Nat → List Int → Prop
  | _, [] => True
  | n, p :: t => (0 ≤ p ∧ p ≤ n) ∧ qOk (if p = n then n + 1 else n) t
def qNn : Nat → List Int → Nat
  | n, [] => n
  | n, p :: t => qNn (if p = n then n + 1 else n) t
theorem qNn_app (l : List Int) (p : Int) : ∀ n : Nat, qNn n (l ++ [p]) = (if p = qNn n l then qNn n l + 1 else qNn n l) ∧ (qOk n (l ++ [p]) ↔ qOk n l ∧ (0 ≤ p ∧ p ≤ qNn n l)) := by
  induction l with
  | nil => intro n; exact ⟨rfl, by simp [qNn, qOk]⟩
  | cons x t ih =>
    intro n
    simp only [List.cons_append, qNn, qOk]
    refine ⟨(ih _).1, ?_⟩
    rw [(ih _).2]
    exact ⟨fun e => ⟨⟨e.1, e.2.1⟩, e.2.2⟩, fun e => ⟨e.1.1, e.1.2, e.2⟩⟩
/-- the reference's stack: d levels, the innermost is the path u -/
def qIk (g : Int → Int) (ps : List (Int × Int)) (F : List Int) : Nat → Int → Prop
  | 0, u => u = -9
  | 1, u => u = -9 ∧ g 1 = -9
  | d + 2, u => ((0 ≤ g ((d + 2 : Nat) : Int) ∧ g ((d + 2 : Nat) : Int) < F.length) ∧ qAt F (g ((d + 2 : Nat) : Int)) = u ∧ 0 ≤ u) ∧ qIk g ps F (d + 1) (qOu ps u)
def qMst (st : Int) : Int := if st = 6 then 5 else if st = 7 then 6 else st
def qFp (s : qRd) : List Int := s.2.1.map qPa ++ (if s.2.2.2.1 = 3 ∨ s.2.2.2.1 = 4 then [s.2.2.2.2.2.2] else [])
theorem qIk_eq {g g' : Int → Int} {ps ps' : List (Int × Int)} {F F' : List Int} (hF : ∀ j : Int, 0 ≤ j → j < F.length → qAt F' j = qAt F j) (hFl : F.length ≤ F'.length) (hp : ∀ u : Int, u < ps.length → qOu ps' u = qOu ps u) (hpl : ∀ u : Int, qOu ps u < ps.length) : ∀ (d : Nat) (u : Int), u < ps.length → (∀ j : Int, 1 ≤ j → j ≤ d → g' j = g j) → qIk g ps F d u → qIk g' ps' F' d u := by
  intro d
  induction d with
  | zero => intro u _ _ h; exact h
  | succ d ih =>
    intro u hu hg h
    cases d with
    | zero => exact ⟨h.1, (hg 1 (by omega) (by omega)).trans h.2⟩
    | succ d =>
      obtain ⟨⟨h1, h2, h3⟩, h4⟩ := h
      have e := hg ((d + 2 : Nat) : Int) (by omega) (by omega)
      refine ⟨⟨by rw [e]; omega, by rw [e, hF _ h1.1 h1.2]; exact h2, h3⟩, ?_⟩
      rw [hp u hu]
      exact ih (qOu ps u) (hpl u) (fun j g1 g2 => hg j g1 (by omega)) h4
/-- the reference's arrays hold the reading s -/
def qPm (m : Nat → Int → Int) (n0 : Nat) (s : qRd) : Prop :=
  (m 176 12 = (qFp s).length ∧ m 176 14 = s.2.2.2.2.1 ∧ m 176 16 = qMst s.2.2.2.1) ∧
  (∀ k : Nat, k < (qFp s).length → m 183 k = qLe s.1 (qAt (qFp s) k) ∧ ((m 184 k = -9 ∧ qOu s.1 (qAt (qFp s) k) = -9) ∨ (0 ≤ m 184 k ∧ m 184 k < k ∧ qAt (qFp s) (m 184 k) = qOu s.1 (qAt (qFp s) k)))) ∧
  (∀ k : Nat, k < s.2.1.length → (m 185 k = -9 ↔ 100 ≤ qAt s.2.1 k)) ∧
  (s.2.2.2.1 = 3 ∨ s.2.2.2.1 = 4 → m 185 s.2.1.length = -9) ∧
  qVl (m 185) s.2.1.length = s.2.2.1 ∧ qOk n0 (qFp s) ∧ qNn n0 (qFp s) = s.1.length ∧
  qIk (m 186) s.1 (qFp s) s.2.2.2.2.1.toNat s.2.2.2.2.2.1
theorem qFp_34 {ps : List (Int × Int)} {fs ns : List Int} {st lv op nm : Int} (h : st = 3 ∨ st = 4) : qFp (ps, fs, ns, st, lv, op, nm) = fs.map qPa ++ [nm] := by
  unfold qFp
  dsimp only
  rw [if_pos h]
theorem qFp_no {ps : List (Int × Int)} {fs ns : List Int} {st lv op nm : Int} (h : ¬ (st = 3 ∨ st = 4)) : qFp (ps, fs, ns, st, lv, op, nm) = fs.map qPa := by
  unfold qFp
  dsimp only
  rw [if_neg h, List.append_nil]
variable {n0 : Nat} {ps : List (Int × Int)} {fs ns : List Int} {st lv op nm c : Int} {m' : Nat → Int → Int}
/-- nothing but the step -/
theorem qPm_step (h : qPm m n0 (ps, fs, ns, st, lv, op, nm)) {st' : Int} (hs : (st = 3 ∨ st = 4) ↔ (st' = 3 ∨ st' = 4)) (e1 : m' 176 12 = m 176 12) (e2 : m' 176 14 = m 176 14) (e3 : m' 176 16 = qMst st') (e4 : m' 183 = m 183) (e5 : m' 184 = m 184) (e6 : m' 185 = m 185) (e7 : m' 186 = m 186) : qPm m' n0 (ps, fs, ns, st', lv, op, nm) := by
  have hF : qFp (ps, fs, ns, st', lv, op, nm) = qFp (ps, fs, ns, st, lv, op, nm) := by
    by_cases h9 : st = 3 ∨ st = 4
    · rw [qFp_34 h9, qFp_34 (hs.mp h9)]
    · rw [qFp_no h9, qFp_no (fun e => h9 (hs.mpr e))]
  obtain ⟨⟨h1, h2, h3⟩, h4, h5, h6, h7, h8, h9, h10⟩ := h
  unfold qPm
  rw [hF, e4, e5, e6, e7]
  exact ⟨⟨e1.trans h1, e2.trans h2, e3⟩, h4, h5, fun e => h6 (hs.mpr e), h7, h8, h9, h10⟩
theorem qPm_close (h : qPm m n0 (ps, fs, ns, st, lv, op, nm)) (hs : ¬ (st = 3 ∨ st = 4)) (hlv : 1 ≤ lv) (e1 : m' 176 12 = m 176 12) (e2 : m' 176 14 = lv - 1) (e3 : m' 176 16 = if lv - 1 = 0 then 6 else 5) (e4 : m' 183 = m 183) (e5 : m' 184 = m 184) (e6 : m' 185 = m 185) (e7 : ∀ j : Int, j ≤ lv → m' 186 j = m 186 j) : qPm m' n0 (qCls (ps, fs, ns, st, lv, op, nm)).2 := by
  have hs' : ¬ ((if lv - 1 = 0 then (7 : Int) else 6) = 3 ∨ (if lv - 1 = 0 then (7 : Int) else 6) = 4) := by split <;> omega
  obtain ⟨⟨h1, h2, h3⟩, h4, h5, h6, h7, h8, h9, h10⟩ := h
  unfold qPm qCls
  rw [qFp_no hs] at h1 h4 h8 h9 h10
  rw [qFp_no hs', e4, e5, e6]
  refine ⟨⟨e1.trans h1, e2, ?_⟩, h4, h5, fun e => absurd e hs', h7, h8, h9, ?_⟩
  · rw [e3]
    dsimp only
    split <;> rfl
  · dsimp only at h10 ⊢
    obtain ⟨d, hd⟩ : ∃ d : Nat, lv = d + 1 := ⟨(lv - 1).toNat, by omega⟩
    subst hd
    have t1 : ((d : Int) + 1).toNat = d + 1 := by omega
    have t2 : ((d : Int) + 1 - 1).toNat = d := by omega
    rw [t1] at h10
    rw [t2]
    cases d with
    | zero =>
      have e : op = -9 := h10.1
      rw [e]
      exact qPa_neg
    | succ d =>
      have hk := h10.2
      -- only lower levels are left
      have low : ∀ (n : Nat) (u : Int), n ≤ d + 1 → qIk (m 186) ps (fs.map qPa) n u → qIk (m' 186) ps (fs.map qPa) n u := by
        intro n
        induction n with
        | zero => intro u _ h; exact h
        | succ n ih =>
          intro u hn h
          cases n with
          | zero => exact ⟨h.1, (e7 1 (by omega)).trans h.2⟩
          | succ n =>
            obtain ⟨⟨g1, g2, g3⟩, g4⟩ := h
            have e := e7 ((n + 2 : Nat) : Int) (by omega)
            exact ⟨⟨by rw [e]; exact g1, by rw [e]; exact g2, g3⟩, ih _ (by omega) g4⟩
      exact low (d + 1) _ (Nat.le_refl _) hk
theorem qPm_open0 (h : qPm m n0 (ps, [], ns, 0, 0, -9, nm)) (e1 : m' 176 12 = m 176 12) (e2 : m' 176 14 = 1) (e3 : m' 176 16 = 1) (e4 : m' 183 = m 183) (e5 : m' 184 = m 184) (e6 : m' 185 = m 185) (e7 : m' 186 1 = -9) : qPm m' n0 (ps, [], ns, 1, 1, -9, nm) := by
  obtain ⟨⟨h1, h2, h3⟩, h4, h5, h6, h7, h8, h9, h10⟩ := h
  unfold qPm
  rw [qFp_no (by decide)] at h1 h4 h8 h9 h10
  rw [qFp_no (by decide), e4, e5, e6]
  exact ⟨⟨e1.trans h1, e2, e3⟩, h4, h5, fun e => absurd e (show ¬ ((1 : Int) = 3 ∨ (1 : Int) = 4) by decide), h7, h8, h9, ⟨rfl, e7⟩⟩
theorem qPm_open4 (h : qPm m n0 (ps, fs, ns, 4, lv, op, nm)) (hlv : 1 ≤ lv) (hnm : 0 ≤ nm) (hou : qOu ps nm = op) (hpl : ∀ u : Int, qOu ps u < ps.length) (hop : op < ps.length) (e1 : m' 176 12 = m 176 12) (e2 : m' 176 14 = lv + 1) (e3 : m' 176 16 = 1) (e4 : m' 183 = m 183) (e5 : m' 184 = m 184) (e6 : m' 185 = m 185) (e7 : m' 186 (lv + 1) = fs.length) (e8 : ∀ j : Int, j ≤ lv → m' 186 j = m 186 j) : qPm m' n0 (ps, fs ++ [100 + nm], ns, 1, lv + 1, nm, nm) := by
  obtain ⟨⟨h1, h2, h3⟩, h4, h5, h6, h7, h8, h9, h10⟩ := h
  have hF : (fs ++ [100 + nm]).map qPa = fs.map qPa ++ [nm] := by
    rw [List.map_append, List.map_cons, List.map_nil, qPa_b hnm]
  unfold qPm
  rw [qFp_34 (Or.inr rfl)] at h1 h4 h8 h9 h10
  rw [qFp_no (by decide), hF, e4, e5, e6]
  refine ⟨⟨e1.trans h1, e2, e3⟩, h4, fun k hk => ?_, fun e => absurd e (show ¬ ((1 : Int) = 3 ∨ (1 : Int) = 4) by decide), ?_, h8, h9, ?_⟩
  · dsimp only at hk h5 h6 ⊢
    rw [List.length_append] at hk
    simp only [List.length_cons, List.length_nil] at hk
    by_cases hk2 : k < fs.length
    · rw [qAt_lt (by rw [List.length_append]; simp only [List.length_cons, List.length_nil]; omega), List.getElem_append_left hk2, ← qAt_lt hk2]
      exact h5 k hk2
    · have e : k = fs.length := by omega
      subst e
      rw [qAt_lt (by rw [List.length_append]; simp only [List.length_cons, List.length_nil]; omega), List.getElem_append_right (Nat.le_refl _)]
      simp only [Nat.sub_self, List.getElem_cons_zero]
      exact ⟨fun _ => by omega, fun _ => h6 (Or.inr rfl)⟩
  · dsimp only at h6 h7 ⊢
    rw [List.length_append]
    simp only [List.length_cons, List.length_nil, qVl]
    rw [h6 (Or.inr rfl), if_pos rfl, List.append_nil]
    exact h7
  · dsimp only at h10 ⊢
    obtain ⟨d, hd⟩ : ∃ d : Nat, lv = d + 1 := ⟨(lv - 1).toNat, by omega⟩
    subst hd
    have t1 : ((d : Int) + 1).toNat = d + 1 := by omega
    have t2 : ((d : Int) + 1 + 1).toNat = d + 2 := by omega
    have t3 : ((d : Int) + 1 + 1) = ((d + 2 : Nat) : Int) := by omega
    rw [t1] at h10
    rw [t3] at e7
    rw [t2]
    refine ⟨⟨by rw [e7, List.length_append, List.length_map]; simp only [List.length_cons, List.length_nil]; omega, ?_, hnm⟩, ?_⟩
    · rw [e7, qAt_lt (by rw [List.length_append, List.length_map]; simp only [List.length_cons, List.length_nil]; omega), List.getElem_append_right (by rw [List.length_map]; exact Nat.le_refl _)]
      simp
    · rw [hou]
      exact qIk_eq (fun _ _ _ => rfl) (Nat.le_refl _) (fun _ _ => rfl) hpl (d + 1) op hop (fun j g1 g2 => e8 j (by omega)) h10
theorem qPm_number (h : qPm m n0 (ps, fs, ns, 4, lv, op, nm)) (hnm : nm < 100) {v : Int} (hv : 0 ≤ v) (e1 : m' 176 12 = m 176 12) (e2 : m' 176 14 = m 176 14) (e3 : m' 176 16 = 5) (e4 : m' 183 = m 183) (e5 : m' 184 = m 184) (e6 : m' 185 fs.length = v) (e9 : ∀ k : Nat, k < fs.length → m' 185 k = m 185 k) (e7 : m' 186 = m 186) : qPm m' n0 (ps, fs ++ [nm], ns ++ [v], 5, lv, op, nm) := by
  obtain ⟨⟨h1, h2, h3⟩, h4, h5, h6, h7, h8, h9, h10⟩ := h
  have hF : (fs ++ [nm]).map qPa = fs.map qPa ++ [nm] := by
    rw [List.map_append, List.map_cons, List.map_nil, qPa_l hnm]
  unfold qPm
  rw [qFp_34 (Or.inr rfl)] at h1 h4 h8 h9 h10
  rw [qFp_no (by decide), hF, e4, e5, e7]
  refine ⟨⟨e1.trans h1, e2.trans h2, e3⟩, h4, fun k hk => ?_, fun e => absurd e (show ¬ ((5 : Int) = 3 ∨ (5 : Int) = 4) by decide), ?_, h8, h9, h10⟩
  · dsimp only at hk h5 h6 ⊢
    rw [List.length_append] at hk
    simp only [List.length_cons, List.length_nil] at hk
    by_cases hk2 : k < fs.length
    · rw [qAt_lt (by rw [List.length_append]; simp only [List.length_cons, List.length_nil]; omega), List.getElem_append_left hk2, ← qAt_lt hk2, e9 k hk2]
      exact h5 k hk2
    · have e : k = fs.length := by omega
      subst e
      rw [qAt_lt (by rw [List.length_append]; simp only [List.length_cons, List.length_nil]; omega), List.getElem_append_right (Nat.le_refl _), e6]
      simp only [Nat.sub_self, List.getElem_cons_zero]
      exact ⟨fun _ => by omega, fun _ => by omega⟩
  · dsimp only at h7 ⊢
    rw [List.length_append]
    simp only [List.length_cons, List.length_nil, qVl]
    rw [e6, if_neg (by omega), qVl_eq fs.length e9, h7]
theorem qAd_len (ps : List (Int × Int)) (l u : Int) : (qAd ps l u).length = if qFi ps l u 0 = ps.length then ps.length + 1 else ps.length := by
  have hle := qFi_le ps l u 0
  unfold qAd
  by_cases h : qFi ps l u 0 < ps.length
  · rw [if_pos h, if_neg (by omega)]
  · rw [if_neg h, if_pos (by omega), List.length_append]
    rfl
theorem qPm_letter (h : qPm m n0 (ps, fs, ns, st, lv, op, nm)) (hs : st = 1 ∨ st = 2) (hlv : 1 ≤ lv) (hwq : qWq ps) (hop : op < ps.length) (hfl : ∀ f ∈ fs, 0 ≤ qPa f ∧ qPa f < ps.length) (e1 : m' 176 12 = (fs.length : Int) + 1) (e2 : m' 176 14 = m 176 14) (e3 : m' 176 16 = 3) (e4 : m' 183 fs.length = c) (e4' : ∀ k : Nat, k < fs.length → m' 183 k = m 183 k) (e5 : m' 184 fs.length = m 186 lv) (e5' : ∀ k : Nat, k < fs.length → m' 184 k = m 184 k) (e6 : m' 185 fs.length = -9) (e6' : ∀ k : Nat, k < fs.length → m' 185 k = m 185 k) (e7 : m' 186 = m 186) : qPm m' n0 (qAd ps c op, fs, ns, 3, lv, op, (qFi ps c op 0 : Nat)) := by
  have hs' : ¬ (st = 3 ∨ st = 4) := by omega
  obtain ⟨⟨h1, h2, h3⟩, h4, h5, h6, h7, h8, h9, h10⟩ := h
  obtain ⟨a1, a2, a3, a4⟩ := qAd_spec ps c op
  have hg := qGd_ou a2 a4
  unfold qPm
  rw [qFp_no hs'] at h1 h4 h8 h9 h10
  rw [qFp_34 (Or.inl rfl), e7]
  dsimp only at h1 h2 h3 h4 h5 h6 h7 h8 h9 h10 ⊢
  have hm : (fs.map qPa).length = fs.length := List.length_map _
  have hlen : (fs.map qPa ++ [((qFi ps c op 0 : Nat) : Int)]).length = fs.length + 1 := by rw [List.length_append, hm]; rfl
  have hat : ∀ j : Int, 0 ≤ j → j < fs.length → qAt (fs.map qPa ++ [((qFi ps c op 0 : Nat) : Int)]) j = qAt (fs.map qPa) j := fun j g0 g1 => by
    obtain ⟨j, rfl⟩ : ∃ y : Nat, j = y := ⟨j.toNat, by omega⟩
    rw [qAt_lt (by rw [hlen]; omega), List.getElem_append_left (by rw [hm]; omega), ← qAt_lt (by rw [hm]; omega)]
  have hlast : qAt (fs.map qPa ++ [((qFi ps c op 0 : Nat) : Int)]) fs.length = (qFi ps c op 0 : Nat) := by
    rw [qAt_lt (by rw [hlen]; omega), List.getElem_append_right (by rw [hm]; exact Nat.le_refl _)]
    simp
  have hfp : ∀ k : Nat, k < fs.length → qAt (fs.map qPa) k < ps.length := fun k hk => by
    rw [qAt_lt (by rw [hm]; exact hk), List.getElem_map]
    exact (hfl _ (List.getElem_mem _)).2
  refine ⟨⟨by rw [e1, hlen]; rfl, e2.trans h2, e3⟩, fun k hk => ?_, fun k hk => ?_, fun _ => e6, ?_, ?_, ?_, ?_⟩
  · rw [hlen] at hk
    by_cases hk2 : k < fs.length
    · rw [hat k (by omega) (by omega), e4' k hk2, e5' k hk2, qLe_pre a1 (hfp k hk2), qOu_pre a1 (hfp k hk2)]
      have h4k := h4 k (by rw [hm]; exact hk2)
      refine ⟨h4k.1, h4k.2.imp id (fun g => ⟨g.1, g.2.1, ?_⟩)⟩
      rw [hat _ g.1 (by omega)]
      exact g.2.2
    · have e : k = fs.length := by omega
      subst e
      rw [hlast, e4, e5]
      refine ⟨hg.2.symm, ?_⟩
      rw [hg.1]
      obtain ⟨d, hd⟩ : ∃ d : Nat, lv = d + 1 := ⟨(lv - 1).toNat, by omega⟩
      subst hd
      have t1 : ((d : Int) + 1).toNat = d + 1 := by omega
      rw [t1] at h10
      cases d with
      | zero =>
        exact Or.inl ⟨h10.2, h10.1⟩
      | succ d =>
        obtain ⟨⟨g1, g2, g3⟩, g4⟩ := h10
        have t3 : ((d + 1 : Nat) : Int) + 1 = ((d + 2 : Nat) : Int) := by omega
        rw [t3]
        rw [hm] at g1
        refine Or.inr ⟨g1.1, g1.2, ?_⟩
        rw [hat _ g1.1 g1.2]
        exact g2
  · rw [e6' k hk]
    exact h5 k hk
  · rw [qVl_eq fs.length e6']
    exact h7
  · exact ((qNn_app _ _ n0).2).mpr ⟨h8, by rw [h9]; have := qFi_le ps c op 0; omega⟩
  · rw [(qNn_app _ _ n0).1, h9, qAd_len]
    have := qFi_le ps c op 0
    by_cases e : qFi ps c op 0 = ps.length
    · rw [if_pos (by omega), if_pos e]
    · rw [if_neg (by omega), if_neg e]
  · refine qIk_eq (fun j g0 g1 => hat j g0 (by rw [hm] at g1; exact g1)) (by rw [hlen, hm]; omega) (fun u hu => qOu_pre a1 hu) (fun u => (qOu_rn hwq u).2.2) lv.toNat op hop (fun _ _ _ => rfl) h10
