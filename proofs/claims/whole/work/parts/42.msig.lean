/-! One sign: the class and the reference -/
variable {m : Nat → Int → Int} {r : Nat → Int → Option Nat}
theorem qNd_inj {α : Type} {l : List α} (h : l.Nodup) {i j : Nat} (hi : i < l.length) (hj : j < l.length) (e : l[i] = l[j]) : i = j := by
  rcases Nat.lt_trichotomy i j with g | g | g
  · exact absurd e (List.pairwise_iff_getElem.mp h i j hi hj g)
  · exact g
  · exact absurd e.symm (List.pairwise_iff_getElem.mp h j i hj hi g)
variable {n0 i : Nat} {ps : List (Int × Int)} {fs ns : List Int} {st lv op nm c : Int}
theorem qRJ_facts (hJ : qRJ i (ps, fs, ns, st, lv, op, nm)) (hi : i ≤ 80) : (0 ≤ st ∧ st ≤ 7) ∧ (0 ≤ lv ∧ lv ≤ 4) ∧ (st = 0 → lv = 0 ∧ fs = [] ∧ op = -9) ∧ (1 ≤ st → st ≤ 6 → 1 ≤ lv) ∧ fs.length ≤ 20 ∧ ps.length ≤ 81 ∧ ((st = 3 ∨ st = 4) → 0 ≤ nm ∧ nm < ps.length ∧ qOu ps nm = op) := by
  obtain ⟨-, -, -, -, -, -, -, -, h9⟩ := hJ
  dsimp only at h9
  rcases h9 with h9 | h9 | h9 | h9 | h9 | h9 | h9
  · obtain ⟨a, b, c, d, e⟩ := h9
    subst c
    refine ⟨by omega, by omega, fun _ => ⟨b, rfl, d⟩, by omega, Nat.zero_le _, by omega, by omega⟩
  · obtain ⟨a, b, c, d, e⟩ := h9
    refine ⟨by omega, by omega, by omega, by omega, by omega, by omega, by omega⟩
  · obtain ⟨a, b, c, d, e⟩ := h9
    refine ⟨by omega, by omega, by omega, by omega, by omega, by omega, by omega⟩
  · obtain ⟨a, b, c, d, e, f1, f2, f3, f4⟩ := h9
    refine ⟨by omega, by omega, by omega, by omega, by omega, by omega, fun _ => ⟨f1, f2, f4⟩⟩
  · obtain ⟨a, b, c, d, e, f1, f2, f3, f4⟩ := h9
    refine ⟨by omega, by omega, by omega, by omega, by omega, by omega, fun _ => ⟨f1, f2, f4⟩⟩
  · obtain ⟨a, b, c, d, e⟩ := h9
    refine ⟨by omega, by omega, by omega, by omega, by omega, by omega, by omega⟩
  · obtain ⟨a, b, c, d, e⟩ := h9
    refine ⟨by omega, by omega, by omega, by omega, by omega, by omega, by omega⟩
/-- whether a letter stands already -/
theorem qStd_eq (h : qPm m n0 (ps, fs, ns, st, lv, op, nm)) (hs : st = 1 ∨ st = 2) (hJ : qRJ i (ps, fs, ns, st, lv, op, nm)) (hi : i ≤ 80) : qStd (m 183) (m 184) c (m 186 lv) fs.length = true ↔ (fs.contains ((qFi ps c op 0 : Nat) : Int) = true ∨ fs.contains (100 + ((qFi ps c op 0 : Nat) : Int)) = true) := by
  have hs' : ¬ (st = 3 ∨ st = 4) := by omega
  obtain ⟨f1, f2, f3, f4, f5, f6, f7⟩ := qRJ_facts hJ hi
  obtain ⟨⟨j0, j1⟩, j2, -, j4, -, -, -, -, -⟩ := hJ
  obtain ⟨-, h4, -, -, -, -, -, h10⟩ := h
  rw [qFp_no hs'] at h4 h10
  dsimp only at h4 h10 j0 j1 j2 j4
  have hm : (fs.map qPa).length = fs.length := List.length_map _
  have hfk : ∀ k : Nat, (hk : k < fs.length) → qAt (fs.map qPa) k = qPa fs[k] ∧ 0 ≤ qPa fs[k] ∧ qPa fs[k] < ps.length ∧ (fs[k] = qPa fs[k] ∨ fs[k] = 100 + qPa fs[k]) := fun k hk => by
    have h2 := j2 fs[k] (List.getElem_mem _)
    refine ⟨by rw [qAt_lt (by rw [hm]; exact hk), List.getElem_map], h2.2.1, h2.2.2.1, ?_⟩
    unfold qPa
    split <;> omega
  have hfi := qFi_le ps c op 0
  -- the top of the stack
  obtain ⟨d, hd⟩ : ∃ d : Nat, lv = d + 1 := ⟨(lv - 1).toNat, by omega⟩
  subst hd
  have t1 : ((d : Int) + 1).toNat = d + 1 := by omega
  rw [t1] at h10
  have top : (op = -9 ∧ m 186 ((d : Int) + 1) = -9) ∨ (0 ≤ op ∧ 0 ≤ m 186 ((d : Int) + 1) ∧ m 186 ((d : Int) + 1) < fs.length ∧ qAt (fs.map qPa) (m 186 ((d : Int) + 1)) = op) := by
    cases d with
    | zero => exact Or.inl h10
    | succ d =>
      obtain ⟨⟨g1, g2, g3⟩, g4⟩ := h10
      have t3 : ((d + 1 : Nat) : Int) + 1 = ((d + 2 : Nat) : Int) := by omega
      rw [t3]
      rw [hm] at g1
      exact Or.inr ⟨g3, g1.1, g1.2, g2⟩
  rw [qStd_iff]
  constructor
  · rintro ⟨k, hk, e1, e2⟩
    obtain ⟨g1, g2, g3, g4⟩ := hfk k hk
    obtain ⟨h4a, h4b⟩ := h4 k (by rw [hm]; exact hk)
    rw [g1] at h4a h4b
    have hou : qOu ps (qPa fs[k]) = op := by
      rcases h4b with ⟨b1, b2⟩ | ⟨b1, b2, b3⟩
      · rcases top with ⟨t1, t2⟩ | ⟨t1, t2, t3, t4⟩
        · omega
        · omega
      · rcases top with ⟨t1, t2⟩ | ⟨t1, t2, t3, t4⟩
        · omega
        · rw [e2] at b3
          exact b3.symm.trans t4
    obtain ⟨q, hq⟩ : ∃ q : Nat, qPa fs[k] = q := ⟨(qPa fs[k]).toNat, by omega⟩
    rw [hq] at g2 g3 g4 h4a hou
    have hql : q < ps.length := by omega
    have hpq : ps[q] = (c, op) := by
      have a1 : ps[q].1 = c := by
        have := qLe_at hql
        exact this.symm.trans (h4a.symm.trans e1)
      have a2 : ps[q].2 = op := by
        have := qOu_at hql
        exact this.symm.trans hou
      exact Prod.ext a1 a2
    have hfq : qFi ps c op 0 = q := by
      have hlt : qFi ps c op 0 < ps.length := by
        by_cases hlt : qFi ps c op 0 < ps.length
        · exact hlt
        · exfalso
          have hnm : (c, op) ∈ ps := hpq ▸ List.getElem_mem hql
          have hn := qAd_nd (l := c) (u := op) j1
          unfold qAd at hn
          rw [if_neg hlt] at hn
          exact (List.nodup_append.mp hn).2.2 _ hnm (c, op) (List.mem_singleton.mpr rfl) rfl
      have h1 := qFi_at c op ps 0 (by omega)
      have h1 : ps.getD (qFi ps c op 0) (0, 0) = (c, op) := h1
      rw [List.getD_eq_getElem?_getD, List.getElem?_eq_getElem hlt] at h1
      exact qNd_inj j1 hlt hql (h1.trans hpq.symm)
    rw [hfq]
    rcases g4 with g4 | g4
    · exact Or.inl (List.contains_iff_mem.mpr (g4 ▸ List.getElem_mem _))
    · exact Or.inr (List.contains_iff_mem.mpr (g4 ▸ List.getElem_mem _))
  · intro hc
    obtain ⟨k, hk, hpk⟩ : ∃ (k : Nat) (hk : k < fs.length), qPa fs[k] = (qFi ps c op 0 : Nat) := by
      rcases hc with hc | hc
      · obtain ⟨k, hk, e⟩ := List.getElem_of_mem (List.contains_iff_mem.mp hc)
        refine ⟨k, hk, ?_⟩
        have h2 := j2 fs[k] (List.getElem_mem _)
        rw [e] at h2 ⊢
        exact qPa_l (by omega)
      · obtain ⟨k, hk, e⟩ := List.getElem_of_mem (List.contains_iff_mem.mp hc)
        refine ⟨k, hk, ?_⟩
        rw [e]
        exact qPa_b (by omega)
    obtain ⟨g1, g2, g3, g4⟩ := hfk k hk
    obtain ⟨h4a, h4b⟩ := h4 k (by rw [hm]; exact hk)
    rw [g1, hpk] at h4a h4b
    rw [hpk] at g3
    have hlt : qFi ps c op 0 < ps.length := by omega
    have h1 := qFi_at c op ps 0 (by omega)
    have h1 : ps.getD (qFi ps c op 0) (0, 0) = (c, op) := h1
    have hg := qGd_ou hlt h1
    rw [hg.2] at h4a
    rw [hg.1] at h4b
    refine ⟨k, hk, h4a, ?_⟩
    rcases h4b with ⟨b1, b2⟩ | ⟨b1, b2, b3⟩
    · rcases top with ⟨t1, t2⟩ | ⟨t1, t2, t3, t4⟩ <;> omega
    · obtain ⟨a, ha⟩ : ∃ a : Nat, m 184 k = a := ⟨(m 184 k).toNat, by omega⟩
      rw [ha] at b2 b3 ⊢
      have hal : a < fs.length := by omega
      have b4 := (hfk a hal)
      rcases top with ⟨t1, t2⟩ | ⟨t1, t2, t3, t4⟩
      · have := b4.1
        omega
      · obtain ⟨b, hb⟩ : ∃ b : Nat, m 186 ((d : Int) + 1) = b := ⟨(m 186 ((d : Int) + 1)).toNat, by omega⟩
        rw [hb] at t3 t4 ⊢
        have hbl : b < fs.length := by omega
        have e : (fs.map qPa)[a]'(by rw [hm]; exact hal) = (fs.map qPa)[b]'(by rw [hm]; exact hbl) := by
          rw [← qAt_lt, ← qAt_lt]
          exact b3.trans t4.symm
        have := qNd_inj j4 _ _ e
        omega
/-! what the class does with a sign -/
theorem qTk_sp (s : qRd) : qTk s 32 = (true, qSpc s) := by
  unfold qTk
  rw [if_pos rfl]
theorem qTk_o0 (h : lv < 4) : qTk (ps, fs, ns, 0, lv, op, nm) 123 = (true, (ps, fs, ns, 1, lv + 1, -9, nm)) := by
  unfold qTk
  dsimp only
  rw [if_neg (by decide), if_pos rfl]
  dsimp only [qOpn]
  rw [if_neg (by omega), if_pos rfl]
theorem qTk_o4 (h : lv < 4) (hn : 0 ≤ nm) : qTk (ps, fs, ns, 4, lv, op, nm) 123 = (true, (ps, fs ++ [100 + nm], ns, 1, lv + 1, nm, nm)) := by
  unfold qTk
  dsimp only
  rw [if_neg (by decide), if_neg (by decide), if_neg (by decide), if_neg (by decide), if_neg (by decide), if_pos rfl, if_neg (by decide)]
  dsimp only [qOpn]
  rw [if_neg (by omega), if_neg (by omega)]
theorem qTk_cl (h : st = 1 ∨ st = 5 ∨ st = 6) : qTk (ps, fs, ns, st, lv, op, nm) 125 = (true, (qCls (ps, fs, ns, st, lv, op, nm)).2) := by
  unfold qTk
  dsimp only
  rcases h with rfl | rfl | rfl
  · rw [if_neg (by decide), if_neg (by decide), if_pos rfl, if_pos rfl]
    rfl
  · rw [if_neg (by decide), if_neg (by decide), if_neg (by decide), if_neg (by decide), if_neg (by decide), if_neg (by decide), if_pos rfl, if_neg (by decide)]
    rfl
  · rw [if_neg (by decide), if_neg (by decide), if_neg (by decide), if_neg (by decide), if_neg (by decide), if_neg (by decide), if_neg (by decide), if_pos rfl]
    rfl
theorem qTk_cm (h : st = 5 ∨ st = 6) : qTk (ps, fs, ns, st, lv, op, nm) 44 = (true, (ps, fs, ns, 2, lv, op, nm)) := by
  unfold qTk
  dsimp only
  rcases h with rfl | rfl
  · rw [if_neg (by decide), if_neg (by decide), if_neg (by decide), if_neg (by decide), if_neg (by decide), if_neg (by decide), if_pos rfl, if_neg (by decide)]
    rfl
  · rw [if_neg (by decide), if_neg (by decide), if_neg (by decide), if_neg (by decide), if_neg (by decide), if_neg (by decide), if_neg (by decide), if_pos rfl]
    rfl
theorem qTk_cn : qTk (ps, fs, ns, 3, lv, op, nm) 58 = (true, (ps, fs, ns, 4, lv, op, nm)) := by
  unfold qTk
  dsimp only
  rw [if_neg (by decide), if_neg (by decide), if_neg (by decide), if_neg (by decide), if_pos rfl]
  rfl
theorem qLet_v : qLet (ps, fs, ns, st, lv, op, nm) c = if c < 97 ∨ 122 < c then (false, (ps, fs, ns, st, lv, op, nm)) else (!(fs.contains ((qFi ps c op 0 : Nat) : Int)) && !(fs.contains (100 + ((qFi ps c op 0 : Nat) : Int))), (qAd ps c op, fs, ns, 3, lv, op, ((qFi ps c op 0 : Nat) : Int))) := rfl
theorem qTk_let (h : st = 1 ∨ st = 2) (hc : c ≠ 32) (hc2 : ¬ (st = 1 ∧ c = 125)) : qTk (ps, fs, ns, st, lv, op, nm) c = qLet (ps, fs, ns, st, lv, op, nm) c := by
  unfold qTk
  dsimp only
  rw [if_neg hc]
  rcases h with rfl | rfl
  · rw [if_neg (by decide), if_pos rfl, if_neg (by omega)]
  · rw [if_neg (by decide), if_neg (by decide), if_pos rfl]
theorem qTk_none (hst : 0 ≤ st ∧ st ≤ 7) (h32 : c ≠ 32) (h1 : ¬ (c = 123 ∧ ((st = 0 ∧ lv < 4) ∨ (st = 4 ∧ lv < 4)))) (h2 : ¬ (c = 125 ∧ (st = 1 ∨ st = 5 ∨ st = 6))) (h3 : ¬ (c = 44 ∧ (st = 5 ∨ st = 6))) (h4 : ¬ (c = 58 ∧ st = 3)) (hL : (st = 1 ∨ st = 2) → 97 ≤ c → c ≤ 122 → (fs.contains ((qFi ps c op 0 : Nat) : Int) = true ∨ fs.contains (100 + ((qFi ps c op 0 : Nat) : Int)) = true)) (hD : st = 4 → qDig c = true → 10 ≤ ns.length) (h5 : st = 5 → qDig c = false) : (qTk (ps, fs, ns, st, lv, op, nm) c).1 = false := by
  by_cases e12 : st = 1 ∨ st = 2
  · rw [qTk_let e12 h32 (fun e => h2 ⟨e.2, Or.inl e.1⟩), qLet_v]
    by_cases hc : c < 97 ∨ 122 < c
    · rw [if_pos hc]
    · rw [if_neg hc]
      dsimp only
      rcases hL e12 (by omega) (by omega) with g | g
      · rw [g]
        rfl
      · rw [g, Bool.and_comm]
        rfl
  · unfold qTk
    dsimp only
    rw [if_neg h32]
    by_cases e0 : st = 0
    · rw [if_pos e0]
      dsimp only [qOpn]
      rw [if_pos (by omega)]
    rw [if_neg e0, if_neg (by omega), if_neg (by omega)]
    by_cases e3 : st = 3
    · rw [if_pos e3]
      exact decide_eq_false (fun e => h4 ⟨e, e3⟩)
    rw [if_neg e3]
    by_cases e4 : st = 4
    · rw [if_pos e4]
      by_cases hd : qDig c = true
      · rw [if_pos hd]
        dsimp only [qDg1]
        rw [if_pos (hD e4 hd)]
      · rw [if_neg hd]
        dsimp only [qOpn]
        rw [if_pos (by omega)]
    rw [if_neg e4]
    have hend : (qEnd (ps, fs, ns, st, lv, op, nm) c).1 = false ∨ ¬ (st = 5 ∨ st = 6) := by
      by_cases e : st = 5 ∨ st = 6
      · left
        dsimp only [qEnd]
        rw [if_neg (fun g => h2 ⟨g, Or.inr e⟩)]
        exact decide_eq_false (fun g => h3 ⟨g, e⟩)
      · exact Or.inr e
    by_cases e5 : st = 5
    · rw [if_pos e5, if_neg (by rw [h5 e5]; decide)]
      exact hend.resolve_right (fun g => g (Or.inl e5))
    rw [if_neg e5]
    by_cases e6 : st = 6
    · rw [if_pos e6]
      exact hend.resolve_right (fun g => g (Or.inr e6))
    rw [if_neg e6]
