/-! text: the whole of it -/
variable {m : Nat → Int → Int} {r : Nat → Int → Option Nat} {w : qWd}
/-- what a text has from a field on; b: the sign before is an opening -/
def qSf (ps : List (Int × Int)) (nv : Int → List Int) : List Int → Int → Int → Bool → List Int
  | [], u, _, _ => (qClo ps 3 u (-9)).1 ++ [125]
  | f :: t, u, lf, b => (qClo ps 3 u (qOu ps (qPa f))).1 ++ ((if b = true ∧ (qClo ps 3 u (qOu ps (qPa f))).1 = [] then [] else [44]) ++ (qLe ps (qPa f) :: 58 :: (if 100 ≤ f then 123 :: qSf ps nv t (qPa f) lf true else nv lf ++ qSf ps nv t (qClo ps 3 u (qOu ps (qPa f))).2 (lf + 1) false)))
theorem qTxt_sf {ps : List (Int × Int)} {nv : Int → List Int} (hnv : ∀ j, ∀ c ∈ nv j, c ≠ 123) : ∀ (fs : List Int) (u lf : Int) (l : List Int) (b : Bool), (b = true ↔ qAt l (l.length - 1) = 123) → qTxt ps nv fs u lf l = l ++ qSf ps nv fs u lf b := by
  intro fs
  induction fs with
  | nil => intro u lf l b _; simp only [qTxt, qSf, List.append_assoc]
  | cons f t ih =>
    intro u lf l b hb
    simp only [qTxt, qSf]
    generalize hcl : (qClo ps 3 u (qOu ps (qPa f))).1 = cl
    have hc1 : ∀ c ∈ cl, c = 125 := by rw [← hcl]; exact qClo_all _ _ _
    have hq : (qAt (l ++ cl) ((l ++ cl).length - 1) = 123) ↔ (b = true ∧ cl = []) := by
      by_cases h0 : cl = []
      · subst h0
        rw [List.append_nil]
        exact ⟨fun h => ⟨hb.mpr h, rfl⟩, fun h => hb.mp h.1⟩
      · have h1 := qLa_all l cl 123 h0 (fun y hy => by rw [hc1 y hy]; decide)
        exact ⟨fun h => absurd h h1, fun h => absurd h.2 h0⟩
    have hN : qNam ps (qPa f) (l ++ cl) = l ++ (cl ++ ((if b = true ∧ cl = [] then [] else [44]) ++ [qLe ps (qPa f), 58])) := by
      unfold qNam
      rw [List.append_assoc]
      congr 2
      by_cases h0 : b = true ∧ cl = []
      · rw [if_pos h0, if_pos (hq.mpr h0)]
      · rw [if_neg h0, if_neg (fun h => h0 (hq.mp h))]
    by_cases hf : 100 ≤ f
    · rw [if_pos hf, if_pos hf, ih _ _ _ true ⟨fun _ => qAt_last, fun _ => rfl⟩, hN]
      simp only [List.append_assoc, List.cons_append, List.nil_append]
    · rw [if_neg hf, if_neg hf]
      have hl : qAt (qNam ps (qPa f) (l ++ cl) ++ nv lf) ((qNam ps (qPa f) (l ++ cl) ++ nv lf).length - 1) ≠ 123 := by
        by_cases h0 : nv lf = []
        · rw [h0, List.append_nil, hN]
          have e : l ++ (cl ++ ((if b = true ∧ cl = [] then [] else [44]) ++ [qLe ps (qPa f), 58])) = (l ++ (cl ++ ((if b = true ∧ cl = [] then [] else [44]) ++ [qLe ps (qPa f)]))) ++ [58] := by simp only [List.append_assoc, List.cons_append, List.nil_append]
          rw [e, qAt_last]
          decide
        · exact qLa_all _ _ 123 h0 (hnv lf)
      rw [ih _ _ _ false ⟨fun h => absurd h (by decide), fun h => absurd h hl⟩, hN]
      simp only [List.append_assoc, List.cons_append, List.nil_append]
theorem qText_sf {ps : List (Int × Int)} {nv : Int → List Int} (hnv : ∀ j, ∀ c ∈ nv j, c ≠ 123) (fs : List Int) : qText ps nv fs = 123 :: qSf ps nv fs (-9) 0 true := by
  unfold qText
  rw [qTxt_sf hnv fs (-9) 0 [123] true ⟨fun _ => rfl, fun _ => rfl⟩]
  rfl
theorem qdrop_c {T l : List Int} {k : Nat} {a : Int} (h : T.drop k = a :: l) : k < T.length ∧ qAt T k = a ∧ T.drop (k + 1) = l := by
  have hk : k < T.length := by
    by_cases hk : k < T.length
    · exact hk
    · rw [List.drop_eq_nil_of_le (by omega)] at h
      cases h
  rw [qAt_drop hk] at h
  exact ⟨hk, (List.cons.inj h).1, (List.cons.inj h).2⟩
theorem qdrop_a {T l l' : List Int} {k : Nat} (h : T.drop k = l ++ l') : T.drop (k + l.length) = l' := by
  rw [← List.drop_drop, h, List.drop_left]
theorem qDe_le {ps : List (Int × Int)} : ∀ (n : Nat) (u : Int), qDe ps n u ≤ n := by
  intro n
  induction n with
  | zero => intro u; exact Nat.le_refl _
  | succ n ih =>
    intro u
    simp only [qDe]
    split
    · omega
    · have := ih (qOu ps u)
      omega
theorem qDe_br {ps : List (Int × Int)} {p : Int} (h : qDp ps 3 p) (hp : p ≠ -9) : qDe ps 3 p = 1 + qDe ps 3 (qOu ps p) := by
  have h3 : qDe ps 3 p = 1 + qDe ps 2 (qOu ps p) := by
    simp only [qDe]
    rw [if_neg hp]
  have h4 : qDp ps 2 (qOu ps p) := by
    rcases h with h | h
    · exact absurd h hp
    · exact h
  have h5 : qDe ps 3 (qOu ps p) = qDe ps 2 (qOu ps p) := qDe_up 2 _ h4
  omega
theorem qLp_take {F : List Int} (hn : F.Nodup) {p : Int} : ∀ (i : Nat), i < F.length → qAt F i = p → qLp F p 0 = qLv (F.take i) := by
  have key : ∀ (F : List Int), F.Nodup → ∀ (i : Nat) (a : Int), i < F.length → qAt F i = p → qLp F p a = a + qLv (F.take i) := by
    intro F
    induction F with
    | nil => intro _ i a h; simp at h
    | cons f t ih =>
      intro hn i a hi he
      rw [List.nodup_cons] at hn
      cases i with
      | zero =>
        rw [qAt_lt hi] at he
        simp only [List.getElem_cons_zero] at he
        simp only [qLp, List.take_zero, qLv]
        rw [if_pos he]
        omega
      | succ i =>
        have hi2 : i < t.length := by simpa using hi
        rw [qAt_lt hi] at he
        simp only [List.getElem_cons_succ] at he
        have hne : f ≠ p := fun e => hn.1 (by rw [e, ← he]; exact List.getElem_mem _)
        simp only [qLp, List.take_succ_cons, qLv]
        rw [if_neg hne, ih hn.2 i _ hi2 (by rw [qAt_lt hi2]; exact he)]
        omega
  intro i hi he
  have := key F hn i 0 hi he
  omega
theorem qLv_take {F : List Int} {i : Nat} (hi : i < F.length) : qLv (F.take (i + 1)) = qLv (F.take i) + (if qAt F i < 100 then 1 else 0) := by
  have key : ∀ (l : List Int) (x : Int), qLv (l ++ [x]) = qLv l + (if x < 100 then 1 else 0) := by
    intro l x
    induction l with
    | nil => simp [qLv]
    | cons g t ih =>
      simp only [List.cons_append, qLv]
      omega
  rw [List.take_add_one, List.getElem?_eq_getElem hi, qAt_lt hi]
  exact key _ _
theorem qSm_app (g : Nat → Int) : ∀ (a b i : Nat), qSm (a + b) i g = qSm a i g + qSm b (i + a) g := by
  intro a
  induction a with
  | zero => intro b i; simp [qSm]
  | succ a ih =>
    intro b i
    have e : a + 1 + b = (a + b) + 1 := by omega
    rw [e]
    simp only [qSm]
    rw [ih b (i + 1)]
    have e2 : i + 1 + a = i + (a + 1) := by omega
    rw [e2]
    omega
variable {y : Nat} {T : List Int} {Q : qA → qM → Prop} {f d tot sg leaf num : Int} {k : Nat}
theorem tx_run (hy : qAt (qRs w.1) y ≠ -9) (hT : T = qTx w y) (hk9 : T.length ≤ 1000) (hf : 0 ≤ f ∧ f ≤ 100) (ht : 0 ≤ tot ∧ tot ≤ 100000) : ∀ (cl : List Int) (k : Nat) (d sg : Int) (l : List Int), (∀ c ∈ cl, c = 125) → T.drop k = cl ++ l → 1 + cl.length ≤ d → d ≤ 4 → 0 ≤ sg → sg + cl.length ≤ 1000 → qTP w y T Q f (d - cl.length) tot (sg + cl.length) (k + cl.length) → qTP w y T Q f d tot sg k := by
  intro cl
  induction cl with
  | nil =>
    intro k d sg l _ _ _ _ _ _ h
    have e1 : d - (([] : List Int).length : Nat) = d := by simp
    have e2 : sg + (([] : List Int).length : Nat) = sg := by simp
    rw [e1, e2] at h
    exact h
  | cons c t ih =>
    intro k d sg l h1 h2 h3 h4 h5 h6 h
    simp only [List.length_cons] at h3 h6 h
    rw [List.cons_append] at h2
    obtain ⟨q1, q2, q3⟩ := qdrop_c h2
    rw [h1 c List.mem_cons_self] at q2
    refine tx_close hy hT q1 hk9 ⟨hf, ht, by omega⟩ (d' := d - 1) (by omega) (by omega) q2 (fun leaf => qTQ_of ?_)
    refine ih (k + 1) (d - 1) (sg + 1) l (fun x hx => h1 x (List.mem_cons_of_mem _ hx)) q3 (by omega) (by omega) (by omega) (by omega) ?_
    have e1 : d - ((t.length + 1 : Nat) : Int) = d - 1 - (t.length : Nat) := by omega
    have e2 : sg + ((t.length + 1 : Nat) : Int) = sg + 1 + (t.length : Nat) := by omega
    have e3 : k + (t.length + 1) = k + 1 + t.length := by omega
    rw [e1, e2, e3] at h
    exact h
theorem tx_num (hy : qAt (qRs w.1) y ≠ -9) (hT : T = qTx w y) (hk9 : T.length ≤ 1000) (hb : qBk f tot sg) {v : Int} (hv : 0 ≤ v ∧ v ≤ 999) {l : List Int} (hd : T.drop k = qNum v ++ l) (h : qTQ w y T Q f d tot sg leaf v (k + (qNum v).length)) : qTQ w y T Q f d tot sg leaf (-1) k := by
  unfold qNum at hd h
  by_cases h1 : 10 ≤ v
  · by_cases h2 : 100 ≤ v
    · rw [if_pos h1, if_pos h2] at hd h
      simp only [List.cons_append, List.nil_append, List.length_cons, List.length_nil] at hd h
      obtain ⟨q1, q2, q3⟩ := qdrop_c hd
      obtain ⟨q4, q5, q6⟩ := qdrop_c q3
      obtain ⟨q7, q8, q9⟩ := qdrop_c q6
      refine tx_dig1 hy hT q1 hk9 hb (v := v / 100) (by omega) q2 ?_
      refine tx_dig2 hy hT q4 hk9 hb (v := v / 10 % 10) (by omega) (by omega) q5 ?_
      refine tx_dig2 hy hT q7 hk9 hb (v := v % 10) (by omega) (by omega) q8 ?_
      have e : 10 * (10 * (v / 100) + v / 10 % 10) + v % 10 = v := by omega
      rw [e]
      exact h
    · rw [if_pos h1, if_neg h2] at hd h
      simp only [List.cons_append, List.nil_append, List.length_cons, List.length_nil] at hd h
      obtain ⟨q1, q2, q3⟩ := qdrop_c hd
      obtain ⟨q4, q5, q6⟩ := qdrop_c q3
      refine tx_dig1 hy hT q1 hk9 hb (v := v / 10 % 10) (by omega) q2 ?_
      refine tx_dig2 hy hT q4 hk9 hb (v := v % 10) (by omega) (by omega) q5 ?_
      have e : 10 * (v / 10 % 10) + v % 10 = v := by omega
      rw [e]
      exact h
  · rw [if_neg h1, if_neg (by omega)] at hd h
    simp only [List.cons_append, List.nil_append, List.length_cons, List.length_nil] at hd h
    obtain ⟨q1, q2, q3⟩ := qdrop_c hd
    have e : v % 10 = v := by omega
    rw [e] at q2
    exact tx_dig1 hy hT q1 hk9 hb (v := v) (by omega) q2 h
theorem qVv_rng (hx : qXN w) {i : Int} (h : qAt (qRs w.1) i ≠ -9) (j : Int) : 0 ≤ qVv w.1 i j ∧ qVv w.1 i j ≤ 999 := by
  obtain ⟨h0, h1⟩ := qHas_lt h
  have h2 := hx.1.1.1.2.2.2.2.2 w.1.2.2.2[i.toNat] (List.getElem_mem _)
  unfold qVv
  rw [List.getD_eq_getElem?_getD (l := w.1.2.2.2), List.getElem?_eq_getElem (by omega)]
  show 0 ≤ (w.1.2.2.2[i.toNat].2).getD j.toNat 0 ∧ (w.1.2.2.2[i.toNat].2).getD j.toNat 0 ≤ 999
  have h3 := qRs_at w.1 (i := i.toNat) (by omega)
  rw [Int.toNat_of_nonneg h0] at h3
  rcases h2.2 with h4 | h4
  · exact absurd (h3.trans h4) h
  · rw [List.getD_eq_getElem?_getD]
    by_cases hj : j.toNat < w.1.2.2.2[i.toNat].2.length
    · rw [List.getElem?_eq_getElem hj]
      exact h4.2.2.2 _ (List.getElem_mem _)
    · rw [List.getElem?_eq_none (by omega)]
      exact ⟨Int.le_refl _, by decide⟩
theorem qSf_pos (ps : List (Int × Int)) (nv : Int → List Int) : ∀ (fs : List Int) (u lf : Int) (b : Bool), 0 < (qSf ps nv fs u lf b).length := by
  intro fs u lf b
  cases fs with
  | nil =>
    simp only [qSf, List.length_append, List.length_cons]
    omega
  | cons f t =>
    simp only [qSf, List.length_append, List.length_cons]
    omega
theorem tx_main (hO : qXN w) (hy : qAt (qRs w.1) y ≠ -9) (hT : T = qTx w y) (hk9 : T.length ≤ 100) {S0 : Int} (hS0 : S0 ≤ 100) (hfin : ∀ leaf, qTQ w y T Q ((qFr' w.1 y).length : Nat) 0 (qSm (qLv (qFr' w.1 y)).toNat 0 (fun j => qVv w.1 y j)) S0 leaf (-1) T.length) :
    ∀ (fs : List Int) (i lf k : Nat) (u sg tot : Int) (b : Bool), (qFr' w.1 y).drop i = fs → i ≤ (qFr' w.1 y).length → (lf : Int) = qLv ((qFr' w.1 y).take i) → T.drop k = qSf w.1.1 (qNvA w.1 y) fs u lf b → qNs w.1.1 fs u → qDp w.1.1 3 u → sg + (qSf w.1.1 (fun _ => []) fs u lf b).length = S0 → tot = qSm lf 0 (fun j => qVv w.1 y j) → 0 ≤ tot → tot ≤ 999 * lf → 0 ≤ sg → qTP w y T Q i (1 + (qDe w.1.1 3 u : Nat)) tot sg k := by
  have h9 : qOu w.1.1 (-9) = -9 := qPa_neg
  have hws : qWs w.1.1 (qFr' w.1 y) := qWs_gf hO.1.1.1 _
  have hnd : ((qFr' w.1 y).map qPa).Nodup := qXN_gf hO.2.1 _
  have hwp := hO.1.1.1.1
  have hF20 := hws.1
  have hlv := hws.2.1
  intro fs
  induction fs with
  | nil =>
    intro i lf k u sg tot b hd hi hlf htd hns hdp hsg htot t0 t1 s0
    simp only [qSf, List.length_append, List.length_cons, List.length_nil] at htd hsg
    have hi2 : i = (qFr' w.1 y).length := by
      have := congrArg List.length hd
      simp only [List.length_drop, List.length_nil] at this
      omega
    have hcl := qClo_de h9 3 3 u (-9) (Nat.le_refl _) hdp (qIn9 3 u hdp)
    have hz : qDe w.1.1 3 (-9) = 0 := by simp [qDe]
    have hd3 := qDe_le (ps := w.1.1) 3 u
    rw [List.take_of_length_le (by omega)] at hlf
    refine tx_run hy hT (by omega) (by omega) (by omega) _ k _ sg [125] (qClo_all _ _ _) htd (by omega) (by omega) s0 (by omega) ?_
    obtain ⟨q1, q2, q3⟩ := qdrop_c (qdrop_a htd)
    have q4 : k + (qClo w.1.1 3 u (-9)).1.length + 1 = T.length := by
      have := congrArg List.length q3
      simp only [List.length_drop, List.length_nil] at this
      omega
    refine tx_last hy hT q1 (by omega) ⟨by omega, by omega, by omega⟩ (by omega) q4 q2 (fun leaf => ?_)
    have h1 := hfin leaf
    have e1 : sg + ((qClo w.1.1 3 u (-9)).1.length : Nat) + 1 = S0 := by omega
    have e2 : (qLv (qFr' w.1 y)).toNat = lf := by omega
    rw [e1, q4, hi2, htot]
    rw [e2] at h1
    exact h1
  | cons f t ih =>
    intro i lf k u sg tot b hd hi hlf htd hns hdp hsg htot t0 t1 s0
    have hi2 : i < (qFr' w.1 y).length := by
      have := congrArg List.length hd
      simp only [List.length_drop, List.length_cons] at this
      omega
    have hdc := qAt_drop hi2
    rw [hd] at hdc
    obtain ⟨hfi, htl⟩ := List.cons.inj hdc
    have hfm : f ∈ qFr' w.1 y := by
      rw [hfi, qAt_lt hi2]
      exact List.getElem_mem _
    have hf0 := hws.2.2.1 f hfm
    have hlv2 := qLv_take hi2
    rw [← hfi] at hlv2
    have hlvle : qLv ((qFr' w.1 y).take i) + (if f < 100 then 1 else 0) ≤ 10 := by
      have e : qFr' w.1 y = (qFr' w.1 y).take (i + 1) ++ (qFr' w.1 y).drop (i + 1) := (List.take_append_drop _ _).symm
      have e2 : qLv (qFr' w.1 y) = qLv ((qFr' w.1 y).take (i + 1)) + qLv ((qFr' w.1 y).drop (i + 1)) := by
        have key : ∀ (a b : List Int), qLv (a ++ b) = qLv a + qLv b := by
          intro a b
          induction a with
          | nil => simp [qLv]
          | cons g s ihh =>
            simp only [List.cons_append, qLv]
            omega
        rw [← key, ← e]
      have := (qLv_rng ((qFr' w.1 y).drop (i + 1))).1
      omega
    obtain ⟨n1, n2, n3⟩ := hns
    have hcl := qClo_de h9 3 3 u _ (Nat.le_refl _) hdp n1
    have hcl2 := qClo_len 3 u _ n1
    have hdo := qDp_in h9 3 3 u _ hdp n1
    have hd3 := qDe_le (ps := w.1.1) 3 u
    have hca := qClo_all (ps := w.1.1) (qOu w.1.1 (qPa f)) 3 u
    have hlt := hwp.2 (qPa f).toNat (by omega)
    have hle := qLe_at (ps := w.1.1) (i := (qPa f).toNat) (by omega)
    rw [Int.toNat_of_nonneg hf0.2.1] at hle
    have hle2 : qLe w.1.1 (qPa f) = qAt (w.1.1.map Prod.fst) (qPa f) := rfl
    have hp60 := hwp.1
    have hpf : f % 100 = qPa f := by
      unfold qPa at hf0 ⊢
      split
      · rename_i h1
        rw [if_pos h1] at hf0
        omega
      · omega
    have hpa2 : (f < 100 → qPa f = f) ∧ (100 ≤ f → qPa f = f - 100) := by
      unfold qPa
      exact ⟨fun h => if_neg (by omega), fun h => if_pos h⟩
    have hrs := qWA_rs hO.1.1.1 (y : Int)
    have hff : fField w (qAt (qRs w.1) y) i = f := by
      unfold fField
      rw [if_neg (by omega), hfi]
      rfl
    have hsm := qSf_pos w.1.1 (fun _ => [])
    simp only [qSf] at htd hsg
    generalize hcg : (qClo w.1.1 3 u (qOu w.1.1 (qPa f))).1 = cl at *
    rw [hcl2] at htd hsg
    -- the closings
    simp only [List.length_append, List.length_cons] at hsg
    have hsg2 : sg + cl.length ≤ S0 := by omega
    refine tx_run hy hT (by omega) (by omega) (by omega) cl k _ sg _ hca htd (by omega) (by omega) s0 (by omega) ?_
    have e1 : 1 + (qDe w.1.1 3 u : Int) - (cl.length : Nat) = 1 + (qDe w.1.1 3 (qOu w.1.1 (qPa f)) : Nat) := by omega
    rw [e1]
    have htd := qdrop_a htd
    -- the letter and what comes behind it
    have main : ∀ (sg1 : Int) (k1 : Nat), T.drop k1 = qLe w.1.1 (qPa f) :: 58 :: (if 100 ≤ f then 123 :: qSf w.1.1 (qNvA w.1 y) t (qPa f) lf true else qNvA w.1 y lf ++ qSf w.1.1 (qNvA w.1 y) t (qOu w.1.1 (qPa f)) (lf + 1) false) → sg1 + 2 + (if 100 ≤ f then 123 :: qSf w.1.1 (fun _ => []) t (qPa f) lf true else [] ++ qSf w.1.1 (fun _ => []) t (qOu w.1.1 (qPa f)) (lf + 1) false).length = S0 → 0 ≤ sg1 → qTP w y T Q i (1 + (qDe w.1.1 3 (qOu w.1.1 (qPa f)) : Nat)) tot sg1 k1 := by
      intro sg1 k1 hk1 hs1 hs0
      have hdo3 := qDe_le (ps := w.1.1) 3 (qOu w.1.1 (qPa f))
      obtain ⟨q1, q2, q3⟩ := qdrop_c hk1
      obtain ⟨q4, q5, q6⟩ := qdrop_c q3
      refine tx_letter hy hT q1 (by omega) ⟨by omega, by omega, by omega⟩ (by omega) q2 (by rw [hle2, hle]; omega) hff hf0.1 (by rw [hpf]; exact fPath_0 hf0.2) (fun h100 => ?_) (by omega) ?_
      · have e9 := hpa2.2 h100
        refine fValue_no hy (by omega) ?_
        rw [qLp_none _ _ 0 (by omega)]
        intro hmem
        -- the path stands twice
        have h10 : qPa (f - 100) = f - 100 := by
          unfold qPa
          rw [if_neg (by omega)]
        obtain ⟨a, ha, ea⟩ := List.getElem_of_mem hmem
        have hia : i = a := by
          refine qNd_inj hnd (i := i) (j := a) (by rw [List.length_map]; exact hi2) (by rw [List.length_map]; exact ha) ?_
          rw [List.getElem_map, List.getElem_map, ea, h10, ← qAt_lt hi2, ← hfi]
          exact e9
        subst hia
        rw [← qAt_lt hi2, ← hfi] at ea
        omega
      by_cases hb9 : 100 ≤ f
      · rw [if_neg (by omega)]
        rw [if_pos hb9] at q6 hs1 n3
        simp only [List.length_cons] at hs1
        obtain ⟨q7, q8, q9⟩ := qdrop_c q6
        have hbr := qDe_br (n2 hb9) (by omega)
        have hbr3 := qDe_le (ps := w.1.1) 3 (qPa f)
        have hsm1 := hsm t (qPa f) lf true
        refine tx_colonQ hy hT q4 (by omega) ⟨by omega, by omega, by omega⟩ (by omega) q5 (qTQ_of ?_)
        refine tx_open hy hT q7 (by omega) ⟨by omega, by omega, by omega⟩ (d' := 1 + (qDe w.1.1 3 (qPa f) : Nat)) (by omega) (by omega) q8 (fun leaf => qTQ_of ?_)
        rw [if_neg (by omega), Int.add_zero] at hlv2
        exact ih (i + 1) lf (k1 + 1 + 1 + 1) (qPa f) (sg1 + 1 + 1 + 1) tot true htl.symm (by omega) (by omega) q9 n3 (n2 hb9) (by omega) htot t0 t1 (by omega)
      · rw [if_pos (by omega)]
        rw [if_neg hb9] at q6 hs1 n3
        rw [List.nil_append] at hs1
        have hvr := qVv_rng hO hy (lf : Int)
        have hsm1 := hsm t (qOu w.1.1 (qPa f)) (lf + 1) false
        refine tx_colonQ hy hT q4 (by omega) ⟨by omega, by omega, by omega⟩ (by omega) q5 ?_
        refine tx_num hy hT (by omega) ⟨by omega, by omega, by omega⟩ (v := qVv w.1 y lf) hvr q6 ?_
        rw [if_pos (by omega)] at hlv2 hlvle
        have hpe := hpa2.1 (by omega)
        have hlp := qLp_take (qMap_nd hnd) i hi2 hfi.symm
        have hfv : fValue w y f = qVv w.1 y lf := by
          rw [fValue_yes hy (by omega) (by rw [hlp]; omega), hlp, hlf]
        refine qTQ_num ?_ hvr (by omega) hfv
        have e5 : qSm (lf + 1) 0 (fun j => qVv w.1 y j) = tot + qVv w.1 y lf := by
          rw [qSm_app _ lf 1 0, ← htot]
          simp [qSm]
        have e6 : ((lf + 1 : Nat) : Int) = (lf : Int) + 1 := rfl
        have hs2 : sg1 + 2 + ((qSf w.1.1 (fun _ => []) t (qOu w.1.1 (qPa f)) ((lf + 1 : Nat) : Int) false).length : Nat) = S0 := hs1
        exact ih (i + 1) (lf + 1) _ (qOu w.1.1 (qPa f)) (sg1 + 1 + 1) (tot + qVv w.1 y lf) false htl.symm (by omega) (by omega) (qdrop_a q6) n3 hdo (by omega) e5.symm (by omega) (by omega) (by omega)
    by_cases hsep : b = true ∧ cl = []
    · rw [if_pos hsep] at htd hsg
      rw [List.nil_append] at htd
      simp only [List.length_nil] at hsg
      exact main _ _ htd (by omega) (by omega)
    · rw [if_neg hsep] at htd hsg
      simp only [List.cons_append, List.nil_append] at htd
      simp only [List.length_cons, List.length_nil] at hsg
      obtain ⟨q1, q2, q3⟩ := qdrop_c htd
      have hdo3 := qDe_le (ps := w.1.1) 3 (qOu w.1.1 (qPa f))
      refine tx_comma hy hT q1 (by omega) ⟨by omega, by omega, by omega⟩ (d' := 1 + (qDe w.1.1 3 (qOu w.1.1 (qPa f)) : Nat)) (by omega) (by omega) q2 (fun leaf => qTQ_of ?_)
      exact main _ _ q3 (by omega) (by omega)
theorem pText (hO : qOb m r w) {y : Nat} (hy : qAt (qRs w.1) y ≠ -9) : qW m_Lw_text 0 [qK 0, qI y, none, none, none, none, none, none, none, none, none, none, none] [] (qT0, m, r) (qPo (qI 1) w) := by
  have hws : qWs w.1.1 (qFr' w.1 y) := qWs_gf hO.2.1.1.1 _
  have hwp := hO.2.1.1.1.1
  have hrs := qWA_rs hO.2.1.1.1 (y : Int)
  have hss : 0 ≤ qAt (qRs w.1) y ∧ qAt (qRs w.1) y < w.1.2.1.length := by omega
  have r0 := fRecord_0 hy
  have r1 := fRecord_1 hy
  have r2 := fRecord_2 hy
  have r3 : fRecord w y 3 = ((qTx w y).length : Nat) := fRecord_3 hy
  have r4 := fRecord_4 hy
  have d2 := fShape_2 hss
  have d3 := fShape_3 hss
  have d4 := fShape_4 hss
  have hfr : qGf w.1.2.1 (qAt (qRs w.1) y) = qFr' w.1 y := rfl
  rw [hfr] at d2 d3 d4
  have hnv : ∀ j, ∀ c ∈ qNvA w.1 y j, c ≠ 123 := fun j => qNum_all (qVv_rng hO.2 hy j)
  have e1 := qText_sf (ps := w.1.1) hnv (qFr' w.1 y)
  have e2 := qText_sf (ps := w.1.1) (nv := fun _ => []) (fun j c h => by cases h) (qFr' w.1 y)
  have l1 : (qTx w y).length ≤ 100 := qText_fit hwp hws (fun j _ _ => ⟨hnv j, qNum_len _⟩)
  have l2 : (qText w.1.1 (fun _ => []) (qFr' w.1 y)).length ≤ 100 := qText_fit hwp hws (fun j _ _ => ⟨fun c h => absurd h List.not_mem_nil, Nat.zero_le _⟩)
  have hch : fCharacter w y ((qTx w y).length : Nat) = -9 := by
    rw [fChar_at hy]
    unfold qAt
    rw [if_neg (by omega)]
  have hfl : fField w (qAt (qRs w.1) y) ((qFr' w.1 y).length : Nat) = -9 := by
    unfold fField
    rw [if_neg (by omega), hfr]
    unfold qAt
    rw [if_neg (by omega)]
  have hlv := qLv_rng (qFr' w.1 y)
  have hF20 := hws.1
  have main : qTP w y (qTx w y) (qPo (qI 1) w) 0 (1 + (qDe w.1.1 3 (-9) : Nat)) 0 1 1 := by
    refine tx_main hO.2 hy rfl l1 (S0 := ((qText w.1.1 (fun _ => []) (qFr' w.1 y)).length : Nat)) (by omega) (fun leaf m r x11 x12 hO => ?_) (qFr' w.1 y) 0 0 1 (-9) 1 0 true (List.drop_zero) (by omega) rfl ?_ hws.2.2.2.1 (Or.inl rfl) ?_ rfl (by omega) (by omega) (by omega)
    · refine qr_il rfl rfl (w := ?_)
      refine qr_il rfl rfl (w := ?_)
      refine qr_icge rfl (fun hc => ?_) (fun hc => absurd hc (by omega))
      refine qr_il rfl rfl (w := ?_)
      refine qr_ifne rfl (fun hct => absurd hct (by omega)) (fun hct => ?_)
      refine qr_al rfl rfl (w := ?_)
      refine qr_il rfl rfl (w := ?_)
      refine qr_il rfl rfl (w := ?_)
      refine qr_callX rfl (oCharacter hO) (qrcv1 kd_0) (w := ?_)
      rw [hch]
      intro m r ⟨hO, hm⟩
      refine qr_const rfl (w := ?_)
      refine qr_icne rfl (fun hctf => absurd hctf (by omega)) (fun hctf => ?_)
      refine qr_il rfl rfl (w := ?_)
      refine qr_al rfl rfl (w := ?_)
      refine qr_il rfl rfl (w := ?_)
      refine qr_const rfl (w := ?_)
      refine qr_callX rfl (oRecord hO) (qrcv1 kd_0) (w := ?_)
      intro m r ⟨hO, hm⟩
      refine qr_al rfl rfl (w := ?_)
      refine qr_il rfl rfl (w := ?_)
      refine qr_const rfl (w := ?_)
      refine qr_callX rfl (oRecord hO) (qrcv1 kd_0) (w := ?_)
      intro m r ⟨hO, hm⟩
      refine qr_add rfl (by omega) (w := ?_)
      refine qr_icne rfl (fun hctff => absurd hctff (by omega)) (fun hctff => ?_)
      refine qr_il rfl rfl (w := ?_)
      refine qr_al rfl rfl (w := ?_)
      refine qr_il rfl rfl (w := ?_)
      refine qr_const rfl (w := ?_)
      refine qr_callX rfl (oRecord hO) (qrcv1 kd_0) (w := ?_)
      intro m r ⟨hO, hm⟩
      refine qr_icne rfl (fun hctfff => absurd hctfff (by omega)) (fun hctfff => ?_)
      refine qr_il rfl rfl (w := ?_)
      refine qr_al rfl rfl (w := ?_)
      refine qr_il rfl rfl (w := ?_)
      refine qr_const rfl (w := ?_)
      refine qr_callX rfl (oShape hO) (qrcv1 kd_0) (w := ?_)
      intro m r ⟨hO, hm⟩
      refine qr_icne rfl (fun hctffff => absurd hctffff (by omega)) (fun hctffff => ?_)
      refine qr_al rfl rfl (w := ?_)
      refine qr_il rfl rfl (w := ?_)
      refine qr_const rfl (w := ?_)
      refine qr_callX rfl (oRecord hO) (qrcv1 kd_0) (w := ?_)
      intro m r ⟨hO, hm⟩
      refine qr_al rfl rfl (w := ?_)
      refine qr_il rfl rfl (w := ?_)
      refine qr_const rfl (w := ?_)
      refine qr_callX rfl (oShape hO) (qrcv1 kd_0) (w := ?_)
      intro m r ⟨hO, hm⟩
      refine qr_icne rfl (fun hctfffff => absurd hctfffff (by omega)) (fun hctfffff => ?_)
      refine qr_al rfl rfl (w := ?_)
      refine qr_il rfl rfl (w := ?_)
      refine qr_const rfl (w := ?_)
      refine qr_callX rfl (oRecord hO) (qrcv1 kd_0) (w := ?_)
      intro m r ⟨hO, hm⟩
      refine qr_al rfl rfl (w := ?_)
      refine qr_il rfl rfl (w := ?_)
      refine qr_const rfl (w := ?_)
      refine qr_callX rfl (oShape hO) (qrcv1 kd_0) (w := ?_)
      intro m r ⟨hO, hm⟩
      refine qr_icne rfl (fun hctffffff => absurd hctffffff (by omega)) (fun hctffffff => ?_)
      refine qr_al rfl rfl (w := ?_)
      refine qr_il rfl rfl (w := ?_)
      refine qr_il rfl rfl (w := ?_)
      refine qr_callX rfl (oField hO) (qrcv1 kd_0) (w := ?_)
      rw [hfl]
      intro m r ⟨hO, hm⟩
      refine qr_const rfl (w := ?_)
      refine qr_icne rfl (fun hctfffffff => absurd hctfffffff (by omega)) (fun hctfffffff => ?_)
      refine qr_const rfl (w := ?_)
      refine qr_goto rfl (w := ?_)
      refine qW_zreturn rfl (by first | exact Or.inl rfl | exact Or.inr rfl | (simp only [qbi]; split <;> simp)) ?_
      exact ⟨m, r, rfl, rfl, hO⟩
    · unfold qTx
      rw [e1]
      rfl
    · have e3 : (qSf w.1.1 (fun _ => []) (qFr' w.1 y) (-9) ((0 : Nat) : Int) true).length = (qSf w.1.1 (fun _ => []) (qFr' w.1 y) (-9) 0 true).length := rfl
      rw [e2, List.length_cons]
      omega
  have hz : qDe w.1.1 3 (-9) = 0 := by simp [qDe]
  rw [hz] at main
  have hc0 : qAt (qTx w y) (0 : Nat) = 123 := by
    unfold qTx
    rw [e1, qAt_lt (by simp)]
    rfl
  have hpos : 0 < (qTx w y).length := by
    unfold qTx
    rw [e1, List.length_cons]
    omega
  have first : qTP w y (qTx w y) (qPo (qI 1) w) 0 0 0 0 0 := by
    refine tx_open hy rfl hpos (by omega) ⟨by omega, by omega, by omega⟩ (d' := 1) (by omega) (by omega) hc0 (fun leaf => qTQ_of main)
  refine qr_al rfl rfl (w := ?_)
  refine qr_il rfl rfl (w := ?_)
  refine qr_const rfl (w := ?_)
  refine qr_callX rfl (oRecord hO) (qrcv1 kd_0) (w := ?_)
  rw [r0]
  intro m r ⟨hO, hm⟩
  refine qr_is2 rfl (w := ?_)
  refine qr_al rfl rfl (w := ?_)
  refine qr_il rfl rfl (w := ?_)
  refine qr_const rfl (w := ?_)
  refine qr_callX rfl (oRecord hO) (qrcv1 kd_0) (w := ?_)
  rw [r3]
  intro m r ⟨hO, hm⟩
  refine qr_is3 rfl (w := ?_)
  refine qr_const rfl (w := ?_)
  refine qr_is4 rfl (w := ?_)
  refine qr_const rfl (w := ?_)
  refine qr_is5 rfl (w := ?_)
  refine qr_const rfl (w := ?_)
  refine qr_is6 rfl (w := ?_)
  refine qr_const rfl (w := ?_)
  refine qr_is7 rfl (w := ?_)
  refine qr_const rfl (w := ?_)
  refine qr_is8 rfl (w := ?_)
  refine qr_const rfl (w := ?_)
  refine qr_is9 rfl (w := ?_)
  refine qr_const rfl (w := ?_)
  refine qr_is10 rfl (w := ?_)
  exact first m r _ _ _ _ _ hO (Or.inl ⟨rfl, rfl⟩)
