/-! types: what is typed is read, and its signs without spaces are its text -/
def qTa (ps : List (Int × Int)) (nv : Int → List Int) : List Int → Int → Int → List Int → List Int
  | [], _, _, l => l
  | f :: t, u, lf, l => if 100 ≤ f then qTa ps nv t (qPa f) lf (qNam ps (qPa f) (l ++ (qClo ps 3 u (qOu ps (qPa f))).1) ++ [123]) else qTa ps nv t (qOu ps (qPa f)) (lf + 1) (qNam ps (qPa f) (l ++ (qClo ps 3 u (qOu ps (qPa f))).1) ++ nv lf)
theorem qTxt_ta {ps : List (Int × Int)} {nv : Int → List Int} : ∀ (fs : List Int) (u lf : Int) (l : List Int), qNs ps fs u → qTxt ps nv fs u lf l = qTa ps nv fs u lf l ++ (qClo ps 3 (qEo ps fs u) (-9)).1 ++ [125] := by
  intro fs
  induction fs with
  | nil => intro u lf l _; rfl
  | cons f t ih =>
    intro u lf l h
    obtain ⟨n1, n2, n3⟩ := h
    simp only [qTxt, qTa, qEo]
    by_cases hf : 100 ≤ f
    · rw [if_pos hf] at n3
      rw [if_pos hf, if_pos hf, if_pos hf]
      exact ih _ _ _ n3
    · rw [if_neg hf] at n3
      rw [if_neg hf, if_neg hf, if_neg hf, qClo_len 3 u _ n1]
      exact ih _ _ _ n3
theorem qTa_app {ps : List (Int × Int)} {nv : Int → List Int} (g : Int) : ∀ (fs : List Int) (u lf : Int) (l : List Int), qTa ps nv (fs ++ [g]) u lf l = qNam ps (qPa g) (qTa ps nv fs u lf l ++ (qClo ps 3 (qEo ps fs u) (qOu ps (qPa g))).1) ++ (if 100 ≤ g then [123] else nv (lf + qLv fs)) := by
  intro fs
  induction fs with
  | nil =>
    intro u lf l
    simp only [List.nil_append, qTa, qEo, qLv, Int.add_zero]
    split <;> rfl
  | cons f t ih =>
    intro u lf l
    simp only [List.cons_append, qTa, qEo, qLv]
    by_cases hf : 100 ≤ f
    · rw [if_pos hf, if_pos hf, if_pos hf, ih, if_neg (by omega : ¬ f < 100), Int.zero_add]
    · rw [if_neg hf, if_neg hf, if_neg hf, ih, if_pos (by omega : f < 100), Int.add_assoc]
theorem qClo_preq {ps P : List (Int × Int)} (h : ps <+: P) (hw : qWq ps) : ∀ (k : Nat) (p u : Int), p < ps.length → qClo P k p u = qClo ps k p u := by
  intro k
  induction k with
  | zero => intro p u hp; rfl
  | succ k ih =>
    intro p u hp
    simp only [qClo]
    rw [qOu_pre h hp, ih (qOu ps p) u (qOu_rn hw p).2.2]
theorem qTa_pre {ps P : List (Int × Int)} (h : ps <+: P) (hw : qWq ps) (nv : Int → List Int) : ∀ (fs : List Int) (u lf : Int) (l : List Int), (∀ f ∈ fs, qPa f < ps.length) → u < ps.length → qTa P nv fs u lf l = qTa ps nv fs u lf l := by
  intro fs
  induction fs with
  | nil => intro u lf l _ _; rfl
  | cons f t ih =>
    intro u lf l hf hu
    have hf0 := hf f List.mem_cons_self
    have hN : ∀ l', qNam P (qPa f) l' = qNam ps (qPa f) l' := fun l' => by
      unfold qNam
      rw [qLe_pre h hf0]
    simp only [qTa]
    rw [qOu_pre h hf0, qClo_preq h hw 3 u _ hu, hN]
    split
    · exact ih _ _ _ (fun g hg => hf g (List.mem_cons_of_mem _ hg)) hf0
    · exact ih _ _ _ (fun g hg => hf g (List.mem_cons_of_mem _ hg)) (qOu_rn hw _).2.2
theorem qTa_nv {ps : List (Int × Int)} {nv nv' : Int → List Int} : ∀ (fs : List Int) (u lf : Int) (l : List Int), (∀ j : Int, lf ≤ j → j < lf + qLv fs → nv j = nv' j) → qTa ps nv fs u lf l = qTa ps nv' fs u lf l := by
  intro fs
  induction fs with
  | nil => intro u lf l _; rfl
  | cons f t ih =>
    intro u lf l h
    have h0 := (qLv_rng t).1
    simp only [qTa]
    simp only [qLv] at h
    split
    · rename_i h1
      rw [if_neg (by omega)] at h
      exact ih _ _ _ (fun j g1 g2 => h j g1 (by omega))
    · rename_i h1
      rw [if_pos (by omega)] at h
      rw [h lf (Int.le_refl _) (by omega)]
      exact ih _ _ _ (fun j g1 g2 => h j (by omega) (by omega))
theorem qClo_self {ps : List (Int × Int)} (n : Nat) (u : Int) : (qClo ps n u u).1 = [] := by
  cases n with
  | zero => rfl
  | succ n => simp [qClo]
theorem qIn_le {ps : List (Int × Int)} (hw : ∀ p : Int, 0 ≤ p → qOu ps p < p) (h9 : ∀ p : Int, -9 ≤ qOu ps p) : ∀ (n : Nat) (u o : Int), -9 ≤ u → 0 ≤ o → qIn ps n u o → o ≤ u := by
  intro n
  induction n with
  | zero =>
    intro u o _ _ h
    have h : u = o := h
    omega
  | succ n ih =>
    intro u o hu ho h
    rcases h with h | ⟨h1, h2⟩
    · omega
    · have h3 := ih _ _ (h9 u) ho h2
      by_cases h4 : 0 ≤ u
      · have := hw u h4
        omega
      · have h5 : qOu ps u = -9 := by
          unfold qOu
          exact qAt_neg (by omega)
        omega
theorem qClo_snoc {ps : List (Int × Int)} (hw : ∀ p : Int, 0 ≤ p → qOu ps p < p) (h9 : ∀ p : Int, -9 ≤ qOu ps p) : ∀ (n : Nat) (u o : Int), -9 ≤ u → 0 ≤ o → qIn ps n u o → qDp ps n u → (qClo ps n u (qOu ps o)).1 = (qClo ps n u o).1 ++ [125] := by
  intro n
  induction n with
  | zero =>
    intro u o _ ho h hd
    have h : u = o := h
    have hd : u = -9 := hd
    omega
  | succ n ih =>
    intro u o hu ho h hd
    have hle := qIn_le hw h9 (n + 1) u o hu ho h
    have hoo := hw o ho
    simp only [qClo]
    rw [if_neg (by omega : ¬ u = qOu ps o)]
    by_cases he : u = o
    · subst he
      rw [if_pos rfl]
      simp only [qClo_self, List.nil_append]
    · rw [if_neg he]
      rcases h with h | ⟨h1, h2⟩
      · exact absurd h he
      rcases hd with hd | hd
      · exact absurd hd h1
      simp only [List.cons_append]
      rw [ih (qOu ps u) o (h9 u) ho h2 hd]
theorem qGo_sn {c : Int} {s s1 s2 : qRd} : ∀ (t : List Int) (s : qRd) (a : Nat), qGo t s a = (a + t.length, s1) → qTk s1 c = (true, s2) → qGo (t ++ [c]) s a = (a + (t ++ [c]).length, s2) := by
  intro t
  induction t with
  | nil =>
    intro s a h hc
    simp only [qGo, List.length_nil, Nat.add_zero, Prod.mk.injEq, true_and] at h
    subst h
    rw [List.nil_append, qGo_y hc]
    rfl
  | cons x t ih =>
    intro s a h hc
    simp only [List.cons_append]
    by_cases hx : (qTk s x).1 = true
    · have e : qTk s x = (true, (qTk s x).2) := by rw [← hx]
      rw [qGo_y e] at h ⊢
      have h2 := ih _ (a + 1) (by rw [h]; simp only [List.length_cons]; congr 1; omega) hc
      rw [h2]
      simp only [List.length_cons]
      congr 1
      omega
    · have e : qTk s x = (false, (qTk s x).2) := by
        cases h0 : (qTk s x).1 with
        | true => exact absurd h0 hx
        | false => rw [← h0]
      rw [qGo_n e] at h
      have h3 := congrArg Prod.fst h
      simp only [List.length_cons] at h3
      omega
theorem qGo_s {ps : List (Int × Int)} {t : List Int} {c : Int} {s1 s2 : qRd} (h : qGo t (qSt0 ps) 0 = (t.length, s1)) (hc : qTk s1 c = (true, s2)) : qGo (t ++ [c]) (qSt0 ps) 0 = ((t ++ [c]).length, s2) := by
  have h2 := qGo_sn (s := qSt0 ps) t (qSt0 ps) 0 (by rw [h, Nat.zero_add]) hc
  rw [Nat.zero_add] at h2
  exact h2
theorem ty_rj {ps : List (Int × Int)} (hw : qWp ps) (hn : ps.Nodup) {t : List Int} (h80 : t.length ≤ 80) {s : qRd} (h : qGo t (qSt0 ps) 0 = (t.length, s)) : qRJ t.length s := by
  have hJ := qGo_J h80 t.length 0 (qSt0 ps) (by omega) (qRJ_0 hw hn) (by rw [List.drop_zero, h])
  rw [List.drop_zero, h] at hJ
  exact hJ
/-- letters that stand between a pair of brackets are marked -/
def qBits (P : List (Int × Int)) (fs : List Int) (mk u : Int) : Prop := ∀ f ∈ fs, ∀ l : Nat, l < 4 → qLe P (qPa f) = 97 + l → qOu P (qPa f) = u → qop2 0 (qop2 3 mk l) 1 ≠ 0
def qLvl (P : List (Int × Int)) (fs : List Int) (M : Nat → Int) : Nat → Int → Prop
  | 0, _ => False
  | 1, u => u = -9 ∧ qBits P fs (M 1) (-9)
  | d + 2, u => 0 ≤ u ∧ u < P.length ∧ 100 + u ∈ fs ∧ qBits P fs (M (d + 2)) u ∧ M (d + 1) ≠ 0 ∧ qLvl P fs M (d + 1) (qOu P u)
def qnvL (ns : List Int) : Int → List Int := fun j => qNum (ns.getD j.toNat 0)
def qTyJ (ps : List (Int × Int)) (t sg : List Int) (M : Nat → Int) (d c : Nat) : Prop := ∃ (P : List (Int × Int)) (fs ns : List Int) (st op nm : Int), qGo t (qSt0 ps) 0 = (t.length, (P, fs, ns, st, ((d : Nat) : Int), op, nm)) ∧ (st = 1 ∨ st = 5 ∨ st = 6) ∧ (st = 1 ↔ M d = 0) ∧ (st = 1 ↔ qAt sg (sg.length - 1) = 123) ∧ ns.length ≤ c ∧ qLvl P fs M d op ∧ (∀ f ∈ fs, qOu P (qPa f) = -9 ∨ 100 + qOu P (qPa f) ∈ fs) ∧ sg = qTa P (qnvL ns) fs (-9) 0 [123] ++ (qClo P 3 (qEo P fs (-9)) op).1
theorem ty_0 {ps : List (Int × Int)} {M : Nat → Int} (hM : M 1 = 0) {c : Nat} : qTyJ ps [123] [123] M 1 c := by
  refine ⟨ps, [], [], 1, -9, -9, ?_, Or.inl rfl, ⟨fun _ => hM, fun _ => rfl⟩, ⟨fun _ => rfl, fun _ => rfl⟩, Nat.zero_le _, ⟨rfl, fun f hf => absurd hf List.not_mem_nil⟩, fun f hf => absurd hf List.not_mem_nil, ?_⟩
  · have h := qTk_o0 (ps := ps) (fs := []) (ns := []) (lv := 0) (op := -9) (nm := -9) (by decide)
    unfold qSt0
    rw [qGo_y h]
    rfl
  · simp only [qTa, qEo, qClo_self, List.append_nil]
theorem ty_mono {ps : List (Int × Int)} {t sg : List Int} {M : Nat → Int} {d c c' : Nat} (h : qTyJ ps t sg M d c) (hc : c ≤ c') : qTyJ ps t sg M d c' := by
  obtain ⟨P, fs, ns, st, op, nm, h1, h2, h3, h4, h5, h6⟩ := h
  exact ⟨P, fs, ns, st, op, nm, h1, h2, h3, h4, Nat.le_trans h5 hc, h6⟩
theorem ty_hw {P : List (Int × Int)} (h : qWq P) : (∀ p : Int, 0 ≤ p → qOu P p < p) ∧ ∀ p : Int, -9 ≤ qOu P p := ⟨fun p hp => (qOu_rn h p).2.1 hp, fun p => by rcases (qOu_rn h p).1 with e | e <;> omega⟩
theorem qEo_rng {P : List (Int × Int)} (h : qWq P) : ∀ (fs : List Int) (u : Int), (∀ f ∈ fs, 0 ≤ qPa f ∧ qPa f < P.length) → (-9 ≤ u ∧ u < P.length) → -9 ≤ qEo P fs u ∧ qEo P fs u < P.length := by
  intro fs
  induction fs with
  | nil => intro u _ hu; exact hu
  | cons f t ih =>
    intro u hf hu
    simp only [qEo]
    refine ih _ (fun g hg => hf g (List.mem_cons_of_mem _ hg)) ?_
    have h0 := hf f List.mem_cons_self
    have h1 := (ty_hw h).2 (qPa f)
    have h2 := (qOu_rn h (qPa f)).2.2
    split <;> omega
theorem ty_close {ps : List (Int × Int)} (hw : qWp ps) (hn : ps.Nodup) {t sg : List Int} {M : Nat → Int} {d c : Nat} (h80 : t.length ≤ 80) (h : qTyJ ps t sg M (d + 2) c) : qTyJ ps (t ++ [125]) (sg ++ [125]) M (d + 1) c := by
  obtain ⟨P, fs, ns, st, op, nm, h1, h2, h3, h4, h5, h6, h7, h8⟩ := h
  have hJ := ty_rj hw hn h80 h1
  obtain ⟨⟨j1, j1'⟩, j2, j3, j4, j5, j6, ⟨j7, j8, j9⟩, j10, -⟩ := hJ
  dsimp only at j1 j1' j2 j3 j4 j5 j6 j7 j8 j9 j10
  obtain ⟨l1, l2, l3, l4, l5, l6⟩ := h6
  refine ⟨P, fs, ns, 6, qOu P op, nm, ?_, Or.inr (Or.inr rfl), ⟨fun e => absurd e (by decide), fun e => absurd e l5⟩, ⟨fun e => absurd e (by decide), fun e => ?_⟩, h5, l6, h7, ?_⟩
  · rw [qGo_s h1 (qTk_cl h2)]
    simp only [qCls]
    have e1 : ((d + 2 : Nat) : Int) - 1 = ((d + 1 : Nat) : Int) := by omega
    rw [e1, if_neg (by omega)]
  · rw [qAt_last] at e
    exact absurd e (by decide)
  · have hu := qEo_rng j1 fs (-9) (fun f hf => ⟨(j2 f hf).2.1, (j2 f hf).2.2.1⟩) ⟨by omega, by omega⟩
    rw [qClo_snoc (ty_hw j1).1 (ty_hw j1).2 3 _ op hu.1 l1 j8 j9, h8, List.append_assoc]
theorem ty_let {P : List (Int × Int)} {fs ns : List Int} {st lv op nm c : Int} (hwq : qWq P) (hfr : ∀ f ∈ fs, 0 ≤ f ∧ 0 ≤ qPa f ∧ qPa f < P.length ∧ (f < 91 ∨ 100 ≤ f)) (hP81 : P.length ≤ 90) (hst : st = 1 ∨ st = 2) (hc : 97 ≤ c ∧ c ≤ 122) (hno : ∀ f ∈ fs, qLe P (qPa f) = c → qOu P (qPa f) ≠ op) : ∃ p P', qTk (P, fs, ns, st, lv, op, nm) c = (true, (P', fs, ns, 3, lv, op, p)) ∧ P <+: P' ∧ (0 ≤ p ∧ p < P'.length ∧ p ≤ 90) ∧ qLe P' p = c ∧ qOu P' p = op ∧ p ∉ fs.map qPa := by
  obtain ⟨a1, a2, a3, a4⟩ := qAd_spec P c op
  have hgo := qGd_ou a2 a4
  have hal := a1.length_le
  have key : ∀ f ∈ fs, qPa f ≠ (qFi P c op 0 : Nat) := by
    intro f hf e
    have h1 := hfr f hf
    have h2 := qLe_pre a1 h1.2.2.1
    have h3 := qOu_pre a1 h1.2.2.1
    rw [e] at h2 h3
    rw [hgo.2] at h2
    rw [hgo.1] at h3
    exact hno f hf (by rw [e]; exact h2.symm) (by rw [e]; exact h3.symm)
  have hP : ((qFi P c op 0 : Nat) : Int) ∉ fs.map qPa := fun hm => by
    obtain ⟨f, hf, e⟩ := List.mem_map.mp hm
    exact key f hf e
  refine ⟨(qFi P c op 0 : Nat), qAd P c op, ?_, a1, ⟨by omega, by omega, by have := (qFi_le P c op 0).2; omega⟩, hgo.2, hgo.1, hP⟩
  rw [qTk_let hst (by omega) (by omega), qLet_v, if_neg (by omega)]
  have e3 : fs.contains ((qFi P c op 0 : Nat) : Int) = false := by
    cases h : fs.contains ((qFi P c op 0 : Nat) : Int) with
    | false => rfl
    | true =>
      have hm := List.contains_iff_mem.mp h
      have hle := (qFi_le P c op 0).2
      refine absurd ?_ (key _ hm)
      exact if_neg (by omega)
  have e4 : fs.contains (100 + ((qFi P c op 0 : Nat) : Int)) = false := by
    cases h : fs.contains (100 + ((qFi P c op 0 : Nat) : Int)) with
    | false => rfl
    | true =>
      have hm := List.contains_iff_mem.mp h
      refine absurd ?_ (key _ hm)
      show (if 100 ≤ 100 + ((qFi P c op 0 : Nat) : Int) then 100 + ((qFi P c op 0 : Nat) : Int) - 100 else 100 + ((qFi P c op 0 : Nat) : Int)) = _
      rw [if_pos (by omega)]
      omega
  rw [e3, e4]
  rfl
theorem ty_end {ps : List (Int × Int)} (hw : qWp ps) (hn : ps.Nodup) {t sg : List Int} {M : Nat → Int} {c : Nat} (h80 : t.length ≤ 80) (h : qTyJ ps t sg M 1 c) : ∃ P fs ns op nm, qGo (t ++ [125]) (qSt0 ps) 0 = ((t ++ [125]).length, (P, fs, ns, 7, 0, op, nm)) ∧ sg ++ [125] = qText P (qnvL ns) fs := by
  obtain ⟨P, fs, ns, st, op, nm, h1, h2, h3, h4, h5, h6, h7, h8⟩ := h
  have hJ := ty_rj hw hn h80 h1
  obtain ⟨⟨j1, j1'⟩, j2, j3, j4, j5, j6, ⟨j7, j8, j9⟩, j10, -⟩ := hJ
  dsimp only at j1 j1' j2 j3 j4 j5 j6 j7 j8 j9 j10
  have l1 : op = -9 := h6.1
  refine ⟨P, fs, ns, qOu P op, nm, ?_, ?_⟩
  · rw [qGo_s h1 (qTk_cl h2)]
    simp only [qCls]
    rw [if_pos (by omega)]
    rfl
  · unfold qText
    rw [qTxt_ta _ _ _ _ j7, h8, l1]
/-- the marks of a pair of brackets with one letter more -/
def qSetB (a : Int) (l : Nat) (b : Int) : Prop := b ≠ 0 ∧ qop2 0 (qop2 3 b l) 1 ≠ 0 ∧ ∀ l' : Nat, l' < 4 → qop2 0 (qop2 3 a l') 1 ≠ 0 → qop2 0 (qop2 3 b l') 1 ≠ 0
theorem lvl_low {P P' : List (Int × Int)} (hP : P <+: P') (hwq : qWq P) {fs : List Int} (hfr : ∀ f ∈ fs, qPa f < P.length) {M M' : Nat → Int} {g op : Int} (hg : qOu P' (qPa g) = op) : ∀ (d : Nat) (u : Int), qLvl P fs M d u → u < op → (∀ j, j ≤ d → M' j = M j) → qLvl P' (fs ++ [g]) M' d u := by
  have hl := hP.length_le
  have hb : ∀ (mk u : Int), u < op → qBits P fs mk u → qBits P' (fs ++ [g]) mk u := by
    intro mk u hu hb f hf l hl4 e1 e2
    rcases List.mem_append.mp hf with h | h
    · rw [qLe_pre hP (hfr f h)] at e1
      rw [qOu_pre hP (hfr f h)] at e2
      exact hb f h l hl4 e1 e2
    · rw [List.mem_singleton.mp h, hg] at e2
      omega
  intro d
  induction d with
  | zero => intro u h; exact absurd h id
  | succ d ih =>
  cases d with
  | zero =>
    intro u h hu hM
    obtain ⟨h1, h2⟩ := h
    refine ⟨h1, ?_⟩
    rw [hM 1 (Nat.le_refl _)]
    exact hb _ _ (by omega) h2
  | succ d =>
    intro u h hu hM
    obtain ⟨h1, h2, h3, h4, h5, h6⟩ := h
    refine ⟨h1, by omega, List.mem_append_left _ h3, ?_, ?_, ?_⟩
    · rw [hM _ (Nat.le_refl _)]
      exact hb _ _ hu h4
    · rw [hM _ (by omega)]
      exact h5
    · rw [qOu_pre hP h2]
      have := (qOu_rn hwq u).2.1 h1
      exact ih _ h6 (by omega) (fun j hj => hM j (by omega))
theorem lvl_top {P P' : List (Int × Int)} (hP : P <+: P') (hwq : qWq P) {fs : List Int} (hfr : ∀ f ∈ fs, qPa f < P.length) {M M' : Nat → Int} {g op : Int} {l : Nat} (hg : qOu P' (qPa g) = op) (hgl : qLe P' (qPa g) = 97 + l) : ∀ (d : Nat), qLvl P fs M d op → (∀ j, j < d → M' j = M j) → qSetB (M d) l (M' d) → qLvl P' (fs ++ [g]) M' d op := by
  have hl := hP.length_le
  have hb : ∀ (a b u : Int), qSetB a l b → qBits P fs a u → qBits P' (fs ++ [g]) b u := by
    intro a b u hs hb f hf l' hl4 e1 e2
    rcases List.mem_append.mp hf with h | h
    · rw [qLe_pre hP (hfr f h)] at e1
      rw [qOu_pre hP (hfr f h)] at e2
      exact hs.2.2 l' hl4 (hb f h l' hl4 e1 e2)
    · rw [List.mem_singleton.mp h, hgl] at e1
      have : l = l' := by omega
      subst this
      exact hs.2.1
  intro d
  match d with
  | 0 => intro h; exact absurd h id
  | 1 =>
    intro h hM hs
    obtain ⟨h1, h2⟩ := h
    exact ⟨h1, hb _ _ _ hs h2⟩
  | d + 2 =>
    intro h hM hs
    obtain ⟨h1, h2, h3, h4, h5, h6⟩ := h
    refine ⟨h1, by omega, List.mem_append_left _ h3, hb _ _ _ hs h4, ?_, ?_⟩
    · rw [hM _ (by omega)]
      exact h5
    · rw [qOu_pre hP h2]
      have := (qOu_rn hwq op).2.1 h1
      exact lvl_low hP hwq hfr hg (d + 1) _ h6 (by omega) (fun j hj => hM j (by omega))
/-- a comma (where something stands between the brackets), a space perhaps, a letter, a colon -/
theorem ty_head {ps : List (Int × Int)} {t : List Int} {P : List (Int × Int)} {fs ns : List Int} {st lv op nm : Int} (h1 : qGo t (qSt0 ps) 0 = (t.length, (P, fs, ns, st, lv, op, nm))) (h2 : st = 1 ∨ st = 5 ∨ st = 6) {sep sp : List Int} (hsep : (st = 1 ∧ sep = []) ∨ (st ≠ 1 ∧ sep = [44])) (hsp : sp = [] ∨ sp = [32]) {l : Nat} (hl : l < 4) (hwq : qWq P) (hfr : ∀ f ∈ fs, 0 ≤ f ∧ 0 ≤ qPa f ∧ qPa f < P.length ∧ (f < 91 ∨ 100 ≤ f)) (hP81 : P.length ≤ 90) (hno : ∀ f ∈ fs, qLe P (qPa f) = 97 + l → qOu P (qPa f) ≠ op) :
    ∃ p P', qGo (t ++ sep ++ sp ++ [97 + (l : Int)] ++ [58]) (qSt0 ps) 0 = ((t ++ sep ++ sp ++ [97 + (l : Int)] ++ [58]).length, (P', fs, ns, 4, lv, op, p)) ∧ P <+: P' ∧ (0 ≤ p ∧ p < P'.length ∧ p ≤ 90) ∧ qLe P' p = 97 + l ∧ qOu P' p = op ∧ p ∉ fs.map qPa := by
  have s1 : ∃ st1, (st1 = 1 ∨ st1 = 2) ∧ qGo (t ++ sep) (qSt0 ps) 0 = ((t ++ sep).length, (P, fs, ns, st1, lv, op, nm)) := by
    rcases hsep with ⟨e1, e2⟩ | ⟨e1, e2⟩
    · subst e2
      rw [List.append_nil]
      exact ⟨st, Or.inl e1, h1⟩
    · subst e2
      exact ⟨2, Or.inr rfl, qGo_s h1 (qTk_cm (by omega))⟩
  obtain ⟨st1, g1, g2⟩ := s1
  have s2 : qGo (t ++ sep ++ sp) (qSt0 ps) 0 = ((t ++ sep ++ sp).length, (P, fs, ns, st1, lv, op, nm)) := by
    rcases hsp with e | e
    · subst e
      rw [List.append_nil]
      exact g2
    · subst e
      rw [qGo_s g2 (qTk_sp _)]
      simp only [qSpc]
      rw [if_neg (by omega)]
  obtain ⟨p, P', k1, k2, k3, k4, k5, k6⟩ := ty_let (P := P) (fs := fs) (ns := ns) (st := st1) (lv := lv) (op := op) (nm := nm) (c := 97 + (l : Int)) hwq hfr hP81 g1 (by omega) hno
  exact ⟨p, P', qGo_s (qGo_s s2 k1) qTk_cn, k2, k3, k4, k5, k6⟩
/-- the signs after a field more -/
theorem ty_sg {P P' : List (Int × Int)} (hP : P <+: P') (hwq : qWq P) {fs : List Int} (hfr : ∀ f ∈ fs, 0 ≤ qPa f ∧ qPa f < P.length) {nv nv' : Int → List Int} (hnv : ∀ j : Int, 0 ≤ j → j < qLv fs → nv j = nv' j) {sg sep : List Int} {st op g : Int} {l : Nat} (h4 : st = 1 ↔ qAt sg (sg.length - 1) = 123) (h8 : sg = qTa P nv fs (-9) 0 [123] ++ (qClo P 3 (qEo P fs (-9)) op).1) (hsep : (st = 1 ∧ sep = []) ∨ (st ≠ 1 ∧ sep = [44])) (hg : qOu P' (qPa g) = op) (hgl : qLe P' (qPa g) = 97 + l) :
    qTa P' nv' (fs ++ [g]) (-9) 0 [123] = sg ++ sep ++ [97 + (l : Int)] ++ [58] ++ (if 100 ≤ g then [123] else nv' (qLv fs)) := by
  rw [qTa_app, qTa_pre hP hwq nv' fs (-9) 0 [123] (fun f hf => (hfr f hf).2) (by omega), ← qTa_nv fs (-9) 0 [123] (fun j g1 g2 => hnv j g1 (by omega)), qEo_pre hP fs (-9) (fun f hf => (hfr f hf).2), hg, qClo_preq hP hwq 3 _ _ (qEo_rng hwq fs (-9) hfr ⟨by omega, by omega⟩).2, ← h8, Int.zero_add]
  unfold qNam
  rw [hgl]
  rcases hsep with ⟨e1, e2⟩ | ⟨e1, e2⟩
  · rw [if_pos (h4.mp e1), e2]
    simp only [List.append_assoc, List.cons_append, List.nil_append]
  · rw [if_neg (fun e => e1 (h4.mpr e)), e2]
    simp only [List.append_assoc, List.cons_append, List.nil_append]
theorem ty_leaf {ps : List (Int × Int)} (hw : qWp ps) (hn : ps.Nodup) {t sg : List Int} {M M' : Nat → Int} {d c : Nat} (h80 : t.length ≤ 80) (hc : c ≤ 9) (h : qTyJ ps t sg M d c) {sep sp sp2 : List Int} (hsep : (M d = 0 ∧ sep = []) ∨ (M d ≠ 0 ∧ sep = [44])) (hsp : sp = [] ∨ sp = [32]) (hsp2 : sp2 = [] ∨ sp2 = [32]) {l : Nat} (hl : l < 4) (hbit : qop2 0 (qop2 3 (M d) l) 1 = 0) (hM : ∀ j, j < d → M' j = M j) (hset : qSetB (M d) l (M' d)) {v : Int} (hv : 0 ≤ v ∧ v ≤ 9) :
    qTyJ ps (t ++ sep ++ sp ++ [97 + (l : Int)] ++ [58] ++ sp2 ++ [48 + v]) (sg ++ sep ++ [97 + (l : Int)] ++ [58] ++ [48 + v]) M' d (c + 1) := by
  obtain ⟨P, fs, ns, st, op, nm, h1, h2, h3, h4, h5, h6, h7, h8⟩ := h
  have hJ := ty_rj hw hn h80 h1
  have hJf := (qRJ_facts hJ h80).2.2.2.2.2.1
  obtain ⟨⟨j1, j1'⟩, j2, j3, j4, j5, j6, ⟨j7, j8, j9⟩, j10, -⟩ := hJ
  dsimp only at j1 j1' j2 j3 j4 j5 j6 j7 j8 j9 j10
  have htop : qBits P fs (M d) op := by
    match d, h6 with
    | 1, h6 => exact h6.1 ▸ h6.2
    | d + 2, h6 => exact h6.2.2.2.1
  have hsep' : (st = 1 ∧ sep = []) ∨ (st ≠ 1 ∧ sep = [44]) := hsep.imp (fun e => ⟨h3.mpr e.1, e.2⟩) (fun e => ⟨fun e2 => e.1 (h3.mp e2), e.2⟩)
  obtain ⟨p, P', k1, k2, k3, k4, k5, k6⟩ := ty_head h1 h2 hsep' hsp hl j1 j2 (by omega) (fun f hf e1 e2 => htop f hf l hl e1 e2 hbit)
  have s2 : qGo (t ++ sep ++ sp ++ [97 + (l : Int)] ++ [58] ++ sp2) (qSt0 ps) 0 = ((t ++ sep ++ sp ++ [97 + (l : Int)] ++ [58] ++ sp2).length, (P', fs, ns, 4, ((d : Nat) : Int), op, p)) := by
    rcases hsp2 with e | e
    · subst e
      rw [List.append_nil]
      exact k1
    · subst e
      rw [qGo_s k1 (qTk_sp _)]
      rfl
  have hpp : qPa p = p := if_neg (by omega)
  refine ⟨P', fs ++ [p], ns ++ [v], 5, op, p, qGo_s s2 (rd_d1 hv (by omega)), Or.inr (Or.inl rfl), ⟨fun e => absurd e (by decide), fun e => absurd e hset.1⟩, ⟨fun e => absurd e (by decide), fun e => ?_⟩, ?_, ?_, fun f hf => ?_, ?_⟩
  · rw [qAt_last] at e
    omega
  · rw [List.length_append]
    simp only [List.length_cons, List.length_nil]
    omega
  · exact lvl_top k2 j1 (fun f hf => (j2 f hf).2.2.1) (g := p) (by rw [hpp]; exact k5) (by rw [hpp]; exact k4) d h6 hM hset
  · rcases List.mem_append.mp hf with e | e
    · rw [qOu_pre k2 (j2 f e).2.2.1]
      exact (h7 f e).imp id (fun g => List.mem_append_left _ g)
    · rw [List.mem_singleton.mp e, hpp, k5]
      match d, h6 with
      | 1, h6 => exact Or.inl h6.1
      | d + 2, h6 => exact Or.inr (List.mem_append_left _ h6.2.2.1)
  · have hnv : ∀ j : Int, 0 ≤ j → j < qLv fs → qnvL ns j = qnvL (ns ++ [v]) j := fun j g1 g2 => by
      unfold qnvL
      rw [List.getD_eq_getElem?_getD, List.getD_eq_getElem?_getD, List.getElem?_append_left (by omega)]
    rw [ty_sg k2 j1 (fun f hf => ⟨(j2 f hf).2.1, (j2 f hf).2.2.1⟩) hnv h4 h8 hsep' (g := p) (by rw [hpp]; exact k5) (by rw [hpp]; exact k4), if_neg (by omega), qEo_app, if_neg (by omega), hpp, k5, qClo_self, List.append_nil]
    have e9 : qnvL (ns ++ [v]) (qLv fs) = [48 + v] := by
      unfold qnvL
      rw [← j3.1, Int.toNat_natCast, List.getD_eq_getElem?_getD, List.getElem?_append_right (Nat.le_refl _), Nat.sub_self]
      show qNum v = [48 + v]
      unfold qNum
      rw [if_neg (by omega), if_neg (by omega)]
      have : v % 10 = v := by omega
      rw [this]
      rfl
    rw [e9]
theorem ty_open {ps : List (Int × Int)} (hw : qWp ps) (hn : ps.Nodup) {t sg : List Int} {M M' : Nat → Int} {d c : Nat} (h80 : t.length ≤ 80) (hd : d < 4) (h : qTyJ ps t sg M d c) {sep sp : List Int} (hsep : (M d = 0 ∧ sep = []) ∨ (M d ≠ 0 ∧ sep = [44])) (hsp : sp = [] ∨ sp = [32]) {l : Nat} (hl : l < 4) (hbit : qop2 0 (qop2 3 (M d) l) 1 = 0) (hM : ∀ j, j < d → M' j = M j) (hset : qSetB (M d) l (M' d)) (hM1 : M' (d + 1) = 0) :
    qTyJ ps (t ++ sep ++ sp ++ [97 + (l : Int)] ++ [58] ++ [123]) (sg ++ sep ++ [97 + (l : Int)] ++ [58] ++ [123]) M' (d + 1) c := by
  obtain ⟨P, fs, ns, st, op, nm, h1, h2, h3, h4, h5, h6, h7, h8⟩ := h
  have hJ := ty_rj hw hn h80 h1
  have hJf := (qRJ_facts hJ h80).2.2.2.2.2.1
  obtain ⟨⟨j1, j1'⟩, j2, j3, j4, j5, j6, ⟨j7, j8, j9⟩, j10, -⟩ := hJ
  dsimp only at j1 j1' j2 j3 j4 j5 j6 j7 j8 j9 j10
  have htop : qBits P fs (M d) op := by
    match d, h6 with
    | 1, h6 => exact h6.1 ▸ h6.2
    | d + 2, h6 => exact h6.2.2.2.1
  have hsep' : (st = 1 ∧ sep = []) ∨ (st ≠ 1 ∧ sep = [44]) := hsep.imp (fun e => ⟨h3.mpr e.1, e.2⟩) (fun e => ⟨fun e2 => e.1 (h3.mp e2), e.2⟩)
  obtain ⟨p, P', k1, k2, k3, k4, k5, k6⟩ := ty_head h1 h2 hsep' hsp hl j1 j2 (by omega) (fun f hf e1 e2 => htop f hf l hl e1 e2 hbit)
  have hpp : qPa (100 + p) = p := by
    show (if 100 ≤ 100 + p then 100 + p - 100 else 100 + p) = p
    rw [if_pos (by omega)]
    omega
  have hnp : 100 + p ∉ fs := fun hm => k6 (List.mem_map.mpr ⟨_, hm, hpp⟩)
  have hlow := lvl_top k2 j1 (fun f hf => (j2 f hf).2.2.1) (g := 100 + p) (by rw [hpp]; exact k5) (by rw [hpp]; exact k4) d h6 hM hset
  have hop : -9 ≤ op ∧ op < p := by
    have hle := k2.length_le
    rcases j5 with e | e
    · omega
    · refine ⟨by omega, ?_⟩
      by_cases hpl : p < P.length
      · have h9 := (qOu_rn j1 p).2.1 k3.1
        rw [← qOu_pre k2 hpl, k5] at h9
        exact h9
      · omega
  have hge1 : ∃ d', d = d' + 1 := by
    match d, h6 with
    | 1, _ => exact ⟨0, rfl⟩
    | d + 2, _ => exact ⟨d + 1, rfl⟩
  obtain ⟨d', rfl⟩ := hge1
  refine ⟨P', fs ++ [100 + p], ns, 1, p, p, ?_, Or.inl rfl, ⟨fun _ => hM1, fun _ => rfl⟩, ⟨fun _ => ?_, fun _ => rfl⟩, h5, ⟨k3.1, k3.2.1, List.mem_append_right _ (List.mem_singleton.mpr rfl), ?_, hset.1, ?_⟩, fun f hf => ?_, ?_⟩
  · rw [qGo_s k1 (qTk_o4 (by omega) k3.1)]
    rfl
  · exact qAt_last
  · intro f hf l' hl' e1 e2
    exfalso
    rcases List.mem_append.mp hf with e | e
    · rw [qOu_pre k2 (j2 f e).2.2.1] at e2
      rcases h7 f e with g | g
      · omega
      · rw [e2] at g
        exact hnp g
    · rw [List.mem_singleton.mp e, hpp, k5] at e2
      omega
  · rw [k5]
    exact hlow
  · rcases List.mem_append.mp hf with e | e
    · rw [qOu_pre k2 (j2 f e).2.2.1]
      exact (h7 f e).imp id (fun g => List.mem_append_left _ g)
    · rw [List.mem_singleton.mp e, hpp, k5]
      match d', h6 with
      | 0, h6 => exact Or.inl h6.1
      | d + 1, h6 => exact Or.inr (List.mem_append_left _ h6.2.2.1)
  · rw [ty_sg k2 j1 (fun f hf => ⟨(j2 f hf).2.1, (j2 f hf).2.2.1⟩) (nv' := qnvL ns) (fun j _ _ => rfl) h4 h8 hsep' (g := 100 + p) (by rw [hpp]; exact k5) (by rw [hpp]; exact k4), if_pos (by omega), qEo_app, if_pos (by omega), hpp, qClo_self, List.append_nil]
