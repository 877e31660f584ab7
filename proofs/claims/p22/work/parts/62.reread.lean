/-! A record's own text is read back: its fields, its values, no new path -/
section RD
variable {ps : List (Int × Int)} {fs ns : List Int} {st lv op nm : Int}
theorem rd_clo {o : Int} : ∀ (n : Nat) (u st lv : Int) (l : List Int) (k : Nat), qIn ps n u o → (st = 1 ∨ st = 5 ∨ st = 6) → 1 + ((qClo ps n u o).1.length : Int) ≤ lv → ∃ st', ((qClo ps n u o).1 = [] → st' = st) ∧ ((qClo ps n u o).1 ≠ [] → st' = 6) ∧ qGo ((qClo ps n u o).1 ++ l) (ps, fs, ns, st, lv, u, nm) k = qGo l (ps, fs, ns, st', lv - (qClo ps n u o).1.length, o, nm) (k + (qClo ps n u o).1.length) := by
  intro n
  induction n with
  | zero =>
    intro u st lv l k h _ _
    have h : u = o := h
    subst h
    refine ⟨st, fun _ => rfl, fun h => absurd rfl h, ?_⟩
    simp [qClo]
  | succ n ih =>
    intro u st lv l k h hs hl
    simp only [qClo] at hl ⊢
    by_cases hu : u = o
    · rw [if_pos hu]
      subst hu
      refine ⟨st, fun _ => rfl, fun h => absurd rfl h, ?_⟩
      simp
    · rw [if_neg hu] at hl ⊢
      simp only [List.length_cons] at hl ⊢
      rcases h with h | ⟨h1, h2⟩
      · exact absurd h hu
      obtain ⟨st', e1, e2, e3⟩ := ih (qOu ps u) 6 (lv - 1) l (k + 1) h2 (Or.inr (Or.inr rfl)) (by omega)
      refine ⟨6, fun h => absurd h (List.cons_ne_nil _ _), fun _ => rfl, ?_⟩
      rw [List.cons_append, qGo_y (qTk_cl hs)]
      simp only [qCls]
      rw [if_neg (by omega), e3]
      have e4 : st' = 6 := by
        by_cases h0 : (qClo ps n (qOu ps u) o).1 = []
        · exact e1 h0
        · exact e2 h0
      rw [e4]
      have e5 : lv - 1 - ((qClo ps n (qOu ps u) o).1.length : Nat) = lv - (((qClo ps n (qOu ps u) o).1.length + 1 : Nat) : Int) := by omega
      have e6 : k + 1 + (qClo ps n (qOu ps u) o).1.length = k + ((qClo ps n (qOu ps u) o).1.length + 1) := by omega
      rw [e5, e6]
theorem qDig_of {v : Int} (h : 0 ≤ v ∧ v ≤ 9) : qDig (48 + v) = true := decide_eq_true (by omega)
theorem rd_d1 {v : Int} (hv : 0 ≤ v ∧ v ≤ 9) (hn : ns.length < 10) : qTk (ps, fs, ns, 4, lv, op, nm) (48 + v) = (true, (ps, fs ++ [nm], ns ++ [v], 5, lv, op, nm)) := by
  rw [qTk_d1 (qDig_of hv)]
  simp only [qDg1]
  rw [if_neg (by omega)]
  have e : 48 + v - 48 = v := by omega
  rw [e]
theorem rd_d2 {v x : Int} (hv : 0 ≤ v ∧ v ≤ 9) (hx : 1 ≤ x ∧ x ≤ 99) : qTk (ps, fs, ns ++ [x], 5, lv, op, nm) (48 + v) = (true, (ps, fs, ns ++ [10 * x + v], 5, lv, op, nm)) := by
  rw [qTk_d2 (qDig_of hv)]
  simp only [qDg2]
  rw [qLst, if_neg (by omega), qLset]
  have e : x * 10 + (48 + v) - 48 = 10 * x + v := by omega
  rw [e]
theorem rd_num {v : Int} (hv : 0 ≤ v ∧ v ≤ 999) (hn : ns.length < 10) (l : List Int) (k : Nat) : qGo (qNum v ++ l) (ps, fs, ns, 4, lv, op, nm) k = qGo l (ps, fs ++ [nm], ns ++ [v], 5, lv, op, nm) (k + (qNum v).length) := by
  unfold qNum
  by_cases h1 : 10 ≤ v
  · by_cases h2 : 100 ≤ v
    · rw [if_pos h1, if_pos h2]
      simp only [List.cons_append, List.nil_append, List.length_cons, List.length_nil]
      rw [qGo_y (rd_d1 (v := v / 100) (by omega) hn), qGo_y (rd_d2 (v := v / 10 % 10) (by omega) (by omega)), qGo_y (rd_d2 (v := v % 10) (by omega) (by omega))]
      have e : 10 * (10 * (v / 100) + v / 10 % 10) + v % 10 = v := by omega
      rw [e]
    · rw [if_pos h1, if_neg h2]
      simp only [List.cons_append, List.nil_append, List.length_cons, List.length_nil]
      rw [qGo_y (rd_d1 (v := v / 10 % 10) (by omega) hn), qGo_y (rd_d2 (v := v % 10) (by omega) (by omega))]
      have e : 10 * (v / 10 % 10) + v % 10 = v := by omega
      rw [e]
  · rw [if_neg h1, if_neg (by omega)]
    simp only [List.cons_append, List.nil_append, List.length_cons, List.length_nil]
    have e : v % 10 = v := by omega
    rw [qGo_y (rd_d1 (v := v % 10) (by omega) hn), e]
theorem rd_let {p : Int} (hps : ps.Nodup) (hp : 0 ≤ p ∧ p < ps.length) (ho : qOu ps p = op) (hc : 97 ≤ qLe ps p ∧ qLe ps p ≤ 122) (hs : st = 1 ∨ st = 2) (h1 : p ∉ fs) (h2 : 100 + p ∉ fs) : qTk (ps, fs, ns, st, lv, op, nm) (qLe ps p) = (true, (ps, fs, ns, 3, lv, op, p)) := by
  rw [qTk_let hs (by omega) (by omega), qLet_v]
  have hf := qFi_take hps (f := p.toNat) (n := ps.length) (by omega) (Nat.le_refl _)
  rw [List.take_length, Int.toNat_of_nonneg hp.1, ho, if_pos (by omega)] at hf
  have e1 : ((qFi ps (qLe ps p) op 0 : Nat) : Int) = p := by omega
  rw [e1, if_neg (by omega)]
  have e2 : qAd ps (qLe ps p) op = ps := by
    unfold qAd
    rw [if_pos (by omega)]
  rw [e2]
  have e3 : fs.contains p = false := by
    cases h : fs.contains p with
    | false => rfl
    | true => exact absurd (List.contains_iff_mem.mp h) h1
  have e4 : fs.contains (100 + p) = false := by
    cases h : fs.contains (100 + p) with
    | false => rfl
    | true => exact absurd (List.contains_iff_mem.mp h) h2
  rw [e3, e4]
  rfl
end RD
theorem qnot_take {F : List Int} (hn : (F.map qPa).Nodup) {i : Nat} (hi : i < F.length) {g : Int} (hg : qPa g = qPa (qAt F i)) : g ∉ F.take i := by
  intro hm
  obtain ⟨a, ha, ea⟩ := List.getElem_of_mem hm
  rw [List.length_take] at ha
  have hia : i = a := by
    refine qNd_inj hn (i := i) (j := a) (by rw [List.length_map]; exact hi) (by rw [List.length_map]; omega) ?_
    rw [List.getElem_map, List.getElem_map, ← qAt_lt hi, ← hg, ← ea, List.getElem_take]
  omega
theorem rd_main {ps : List (Int × Int)} (hwp : qWp ps) (hps : ps.Nodup) {F V : List Int} (hws : qWs ps F) (hnd : (F.map qPa).Nodup) (hV : (V.length : Int) = qLv F) (hVr : ∀ j : Nat, 0 ≤ V.getD j 0 ∧ V.getD j 0 ≤ 999) {nv : Int → List Int} (hnv : ∀ j : Nat, nv j = qNum (V.getD j 0)) :
    ∀ (fs : List Int) (i lf : Nat) (u st nm : Int) (b : Bool) (k : Nat), F.drop i = fs → i ≤ F.length → (lf : Int) = qLv (F.take i) → qNs ps fs u → qDp ps 3 u → (b = true → st = 1) → (b = false → st = 5 ∨ st = 6) → ∃ nm', qGo (qSf ps nv fs u lf b) (ps, F.take i, V.take lf, st, 1 + (qDe ps 3 u : Nat), u, nm) k = (k + (qSf ps nv fs u lf b).length, (ps, F, V, 7, 0, -9, nm')) := by
  have h9 : qOu ps (-9) = -9 := qPa_neg
  intro fs
  induction fs with
  | nil =>
    intro i lf u st nm b k hd hi hlf hns hdp hb1 hb2
    have hi2 : i = F.length := by
      have := congrArg List.length hd
      simp only [List.length_drop, List.length_nil] at this
      omega
    have hcl := qClo_de h9 3 3 u (-9) (Nat.le_refl _) hdp (qIn9 3 u hdp)
    have hz : qDe ps 3 (-9) = 0 := by simp [qDe]
    have hst : st = 1 ∨ st = 5 ∨ st = 6 := by
      cases b with
      | true => exact Or.inl (hb1 rfl)
      | false => exact Or.inr (hb2 rfl)
    have htk : F.take i = F := List.take_of_length_le (by omega)
    rw [htk] at hlf ⊢
    have htv : V.take lf = V := List.take_of_length_le (by omega)
    rw [htv]
    simp only [qSf]
    obtain ⟨st', e1, e2, e3⟩ := rd_clo (ps := ps) (fs := F) (ns := V) (nm := nm) 3 u st (1 + (qDe ps 3 u : Nat)) [125] k (qIn9 3 u hdp) hst (by omega)
    have hst' : st' = 1 ∨ st' = 5 ∨ st' = 6 := by
      by_cases h0 : (qClo ps 3 u (-9)).1 = []
      · rw [e1 h0]
        exact hst
      · exact Or.inr (Or.inr (e2 h0))
    refine ⟨nm, ?_⟩
    rw [e3, qGo_y (qTk_cl hst')]
    simp only [qCls, qGo, List.length_append, List.length_cons, List.length_nil]
    have e4 : 1 + (qDe ps 3 u : Int) - ((qClo ps 3 u (-9)).1.length : Nat) - 1 = 0 := by omega
    rw [e4, if_pos rfl, h9]
    rfl
  | cons f t ih =>
    intro i lf u st nm b k hd hi hlf hns hdp hb1 hb2
    have hi2 : i < F.length := by
      have := congrArg List.length hd
      simp only [List.length_drop, List.length_cons] at this
      omega
    have hdc := qAt_drop hi2
    rw [hd] at hdc
    obtain ⟨hfi, htl⟩ := List.cons.inj hdc
    have hfm : f ∈ F := by
      rw [hfi, qAt_lt hi2]
      exact List.getElem_mem _
    have hf0 := hws.2.2.1 f hfm
    have hlv2 := qLv_take hi2
    rw [← hfi] at hlv2
    have hlvle : qLv (F.take (i + 1)) ≤ qLv F := by
      have e : F = F.take (i + 1) ++ F.drop (i + 1) := (List.take_append_drop _ _).symm
      have e2 : qLv F = qLv (F.take (i + 1)) + qLv (F.drop (i + 1)) := by
        have key : ∀ (a b : List Int), qLv (a ++ b) = qLv a + qLv b := by
          intro a b
          induction a with
          | nil => simp [qLv]
          | cons g s ihh =>
            simp only [List.cons_append, qLv]
            omega
        rw [← key, ← e]
      have := (qLv_rng (F.drop (i + 1))).1
      omega
    obtain ⟨n1, n2, n3⟩ := hns
    have hcl := qClo_de h9 3 3 u _ (Nat.le_refl _) hdp n1
    have hcl2 := qClo_len 3 u _ n1
    have hdo := qDp_in h9 3 3 u _ hdp n1
    have hlt := hwp.2 (qPa f).toNat (by omega)
    have hle := qLe_at (ps := ps) (i := (qPa f).toNat) (by omega)
    rw [Int.toNat_of_nonneg hf0.2.1] at hle
    have hle2 : qLe ps (qPa f) = qAt (ps.map Prod.fst) (qPa f) := rfl
    have hlr : 97 ≤ qLe ps (qPa f) ∧ qLe ps (qPa f) ≤ 122 := by rw [hle2, hle]; omega
    have hp60 := hwp.1
    have hpa2 : (f < 100 → qPa f = f) ∧ (100 ≤ f → qPa f = f - 100) := by
      unfold qPa
      exact ⟨fun h => if_neg (by omega), fun h => if_pos h⟩
    have hn1 : qPa f ∉ F.take i := qnot_take hnd hi2 (by
      rw [← hfi]
      have : qPa f < 100 := by omega
      show (if 100 ≤ qPa f then qPa f - 100 else qPa f) = qPa f
      exact if_neg (by omega))
    have hn2 : 100 + qPa f ∉ F.take i := qnot_take hnd hi2 (by
      rw [← hfi]
      show (if 100 ≤ 100 + qPa f then 100 + qPa f - 100 else 100 + qPa f) = qPa f
      rw [if_pos (by omega)]
      omega)
    have htk1 : F.take (i + 1) = F.take i ++ [f] := by
      rw [List.take_add_one, List.getElem?_eq_getElem hi2, hfi, qAt_lt hi2]
      rfl
    have hst : st = 1 ∨ st = 5 ∨ st = 6 := by
      cases b with
      | true => exact Or.inl (hb1 rfl)
      | false => exact Or.inr (hb2 rfl)
    have hd3 := qDe_le (ps := ps) 3 (qOu ps (qPa f))
    simp only [qSf]
    rw [hcl2]
    -- behind the closings and the comma
    have main : ∀ (st1 : Int) (k1 : Nat), (st1 = 1 ∨ st1 = 2) → ∃ nm', qGo (qLe ps (qPa f) :: 58 :: (if 100 ≤ f then 123 :: qSf ps nv t (qPa f) lf true else nv lf ++ qSf ps nv t (qOu ps (qPa f)) (lf + 1) false)) (ps, F.take i, V.take lf, st1, 1 + (qDe ps 3 (qOu ps (qPa f)) : Nat), qOu ps (qPa f), nm) k1 = (k1 + (qLe ps (qPa f) :: 58 :: (if 100 ≤ f then 123 :: qSf ps nv t (qPa f) lf true else nv lf ++ qSf ps nv t (qOu ps (qPa f)) (lf + 1) false)).length, (ps, F, V, 7, 0, -9, nm')) := by
      intro st1 k1 hst1
      rw [qGo_y (rd_let hps hf0.2 rfl hlr hst1 hn1 hn2), qGo_y qTk_cn]
      by_cases hb9 : 100 ≤ f
      · rw [if_pos hb9]
        rw [if_pos hb9] at n3
        have hbr := qDe_br (n2 hb9) (by omega)
        have hbr3 := qDe_le (ps := ps) 3 (qPa f)
        have e9 := hpa2.2 hb9
        rw [if_neg (by omega), Int.add_zero] at hlv2
        rw [qGo_y (qTk_o4 (by omega) hf0.2.1)]
        have e10 : F.take i ++ [100 + qPa f] = F.take (i + 1) := by
          rw [htk1, e9]
          congr 2
          omega
        have e11 : 1 + (qDe ps 3 (qOu ps (qPa f)) : Int) + 1 = 1 + (qDe ps 3 (qPa f) : Nat) := by omega
        rw [e10, e11]
        obtain ⟨nm', e12⟩ := ih (i + 1) lf (qPa f) 1 (qPa f) true (k1 + 1 + 1 + 1) htl.symm (by omega) (by omega) n3 (n2 hb9) (fun _ => rfl) (fun h => absurd h (by decide))
        refine ⟨nm', ?_⟩
        rw [e12]
        simp only [List.length_cons]
        congr 1
        omega
      · rw [if_neg hb9]
        rw [if_neg hb9] at n3
        have e9 := hpa2.1 (by omega)
        rw [if_pos (by omega)] at hlv2
        have hlfV : lf < V.length := by omega
        have hVl : (V.take lf).length < 10 := by
          have := hws.2.1
          rw [List.length_take]
          omega
        rw [hnv lf, rd_num (hVr lf) hVl]
        have e10 : F.take i ++ [qPa f] = F.take (i + 1) := by rw [htk1, e9]
        have e11 : V.take lf ++ [V.getD lf 0] = V.take (lf + 1) := by
          rw [List.take_add_one, List.getElem?_eq_getElem hlfV, List.getD_eq_getElem?_getD, List.getElem?_eq_getElem hlfV]
          rfl
        rw [e10, e11]
        obtain ⟨nm', e12⟩ := ih (i + 1) (lf + 1) (qOu ps (qPa f)) 5 (qPa f) false (k1 + 1 + 1 + (qNum (V.getD lf 0)).length) htl.symm (by omega) (by omega) n3 hdo (fun h => absurd h (by decide)) (fun _ => Or.inl rfl)
        have e13 : ((lf + 1 : Nat) : Int) = (lf : Int) + 1 := rfl
        rw [e13] at e12
        refine ⟨nm', ?_⟩
        rw [e12]
        simp only [List.length_cons, List.length_append]
        congr 1
        omega
    obtain ⟨st', e1, e2, e3⟩ := rd_clo (ps := ps) (fs := F.take i) (ns := V.take lf) (nm := nm) 3 u st (1 + (qDe ps 3 u : Nat)) ((if b = true ∧ (qClo ps 3 u (qOu ps (qPa f))).1 = [] then [] else [44]) ++ (qLe ps (qPa f) :: 58 :: (if 100 ≤ f then 123 :: qSf ps nv t (qPa f) lf true else nv lf ++ qSf ps nv t (qOu ps (qPa f)) (lf + 1) false))) k n1 hst (by omega)
    rw [e3]
    have e4 : 1 + (qDe ps 3 u : Int) - ((qClo ps 3 u (qOu ps (qPa f))).1.length : Nat) = 1 + (qDe ps 3 (qOu ps (qPa f)) : Nat) := by omega
    rw [e4]
    by_cases hsep : b = true ∧ (qClo ps 3 u (qOu ps (qPa f))).1 = []
    · rw [if_pos hsep, List.nil_append]
      obtain ⟨nm', e5⟩ := main st' (k + (qClo ps 3 u (qOu ps (qPa f))).1.length) (Or.inl (by rw [e1 hsep.2]; exact hb1 hsep.1))
      refine ⟨nm', ?_⟩
      rw [e5]
      simp only [List.length_append]
      congr 1
      omega
    · rw [if_neg hsep, List.cons_append, List.nil_append]
      have hst' : st' = 5 ∨ st' = 6 := by
        by_cases h0 : (qClo ps 3 u (qOu ps (qPa f))).1 = []
        · rw [e1 h0]
          cases b with
          | true => exact absurd ⟨rfl, h0⟩ hsep
          | false => exact hb2 rfl
        · exact Or.inr (e2 h0)
      rw [qGo_y (qTk_cm hst')]
      obtain ⟨nm', e5⟩ := main 2 (k + (qClo ps 3 u (qOu ps (qPa f))).1.length + 1) (Or.inr rfl)
      refine ⟨nm', ?_⟩
      rw [e5]
      simp only [List.length_append, List.length_cons]
      congr 1
      omega
