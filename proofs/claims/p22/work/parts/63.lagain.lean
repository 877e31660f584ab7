/-! again: the world after a record's own text is read once more -/
variable {m : Nat → Int → Int} {r : Nat → Int → Option Nat} {w : qWd}
abbrev qPe (v : qA) : qA → qM → Prop := fun x σ => ∃ (m' : Nat → Int → Int) (r' : Nat → Int → Option Nat), σ = (qT0, m', r') ∧ x = v ∧ ∃ w', qOb m' r' w'
theorem qNum_rng {v : Int} (h : 0 ≤ v ∧ v ≤ 999) : ∀ c ∈ qNum v, 48 ≤ c ∧ c ≤ 57 := by
  intro c hc
  unfold qNum at hc
  simp only [List.mem_append] at hc
  rcases hc with hc | hc | hc
  · split at hc
    · simp at hc
      omega
    · simp at hc
  · split at hc
    · simp at hc
      omega
    · simp at hc
  · simp at hc
    omega
theorem qSf_rng {ps : List (Int × Int)} {nv : Int → List Int} (hnv : ∀ j, ∀ c ∈ nv j, 48 ≤ c ∧ c ≤ 57) : ∀ (fs : List Int) (u lf : Int) (b : Bool), (∀ f ∈ fs, 97 ≤ qLe ps (qPa f) ∧ qLe ps (qPa f) ≤ 122) → ∀ c ∈ qSf ps nv fs u lf b, 44 ≤ c ∧ c ≤ 125 := by
  intro fs
  induction fs with
  | nil =>
    intro u lf b _ c hc
    simp only [qSf, List.mem_append] at hc
    rcases hc with hc | hc
    · rw [qClo_all _ _ _ c hc]
      omega
    · rw [List.mem_singleton.mp hc]
      omega
  | cons f t ih =>
    intro u lf b hf c hc
    have h1 := hf f List.mem_cons_self
    have ih2 := fun u lf b => ih u lf b (fun g hg => hf g (List.mem_cons_of_mem _ hg))
    simp only [qSf, List.mem_append, List.mem_cons] at hc
    rcases hc with hc | hc | hc | hc | hc
    · rw [qClo_all _ _ _ c hc]
      omega
    · split at hc
      · cases hc
      · rw [List.mem_singleton.mp hc]
        omega
    · omega
    · omega
    · split at hc
      · rcases List.mem_cons.mp hc with hc | hc
        · omega
        · exact ih2 _ _ _ c hc
      · rcases List.mem_append.mp hc with hc | hc
        · have := hnv _ c hc
          omega
        · exact ih2 _ _ _ c hc
theorem qFr_le (hx : qXN w) {y : Int} : ∀ f ∈ qFr' w.1 y, 97 ≤ qLe w.1.1 (qPa f) ∧ qLe w.1.1 (qPa f) ≤ 122 := by
  intro f hf
  have hws : qWs w.1.1 (qFr' w.1 y) := qWs_gf hx.1.1.1 _
  have hf0 := hws.2.2.1 f hf
  have hlt := hx.1.1.1.1.2 (qPa f).toNat (by omega)
  have hle := qLe_at (ps := w.1.1) (i := (qPa f).toNat) (by omega)
  rw [Int.toNat_of_nonneg hf0.2.1] at hle
  have hle2 : qLe w.1.1 (qPa f) = qAt (w.1.1.map Prod.fst) (qPa f) := rfl
  rw [hle2, hle]
  omega
theorem qTx_sf (hx : qXN w) {y : Nat} (hy : qAt (qRs w.1) y ≠ -9) : qTx w y = 123 :: qSf w.1.1 (qNvA w.1 y) (qFr' w.1 y) (-9) 0 true := qText_sf (fun j => qNum_all (qVv_rng hx hy j)) _
theorem qTx_rng (hx : qXN w) {y : Nat} (hy : qAt (qRs w.1) y ≠ -9) : ∀ c ∈ qTx w y, 44 ≤ c ∧ c ≤ 125 := by
  intro c hc
  rw [qTx_sf hx hy] at hc
  rcases List.mem_cons.mp hc with h | h
  · omega
  · exact qSf_rng (fun j => qNum_rng (qVv_rng hx hy j)) _ _ _ _ (qFr_le hx) c h
theorem qRun_again (hx : qXN w) {y : Nat} (hy : qAt (qRs w.1) y ≠ -9) (hs : List qAS) : ∃ nm', qRun (w.1, hs, qTx w y) = ((qTx w y).length, (w.1.1, qFr' w.1 y, (qGet w.1 y).2, 7, 0, -9, nm')) := by
  have hrv := qRv_of hx.1.1.1 y hy
  have hvr := qVv_rng hx hy
  have hws : qWs w.1.1 (qFr' w.1 y) := qWs_gf hx.1.1.1 _
  obtain ⟨nm', h⟩ := rd_main hx.1.1.1.1 hx.1.2.1 hws (qXN_gf hx.2.1 _) hrv.1 (fun j => hvr (j : Nat)) (nv := qNvA w.1 y) (fun j => rfl) (qFr' w.1 y) 0 0 (-9) 1 (-9) true 1 List.drop_zero (by omega) rfl hws.2.2.2.1 (Or.inl rfl) (fun _ => rfl) (fun h => absurd h (by decide))
  refine ⟨nm', ?_⟩
  show qGo (qTx w y) (qSt0 w.1.1) 0 = _
  rw [qTx_sf hx hy]
  unfold qSt0
  rw [qGo_y (qTk_o0 (by omega))]
  have hz : qDe w.1.1 3 (-9) = 0 := by simp [qDe]
  rw [hz, Nat.add_comm 1] at h
  rw [List.length_cons]
  exact h
theorem qFs_nd {F : List Int} : ∀ (ss : List (List Int)) (a i : Nat) (h : i < ss.length), ss.Nodup → ss[i] = F → qFs ss F a = a + i := by
  intro ss
  induction ss with
  | nil => intro a i h; simp at h
  | cons g t ih =>
    intro a i h hn he
    rw [List.nodup_cons] at hn
    simp only [qFs]
    cases i with
    | zero =>
      simp only [List.getElem_cons_zero] at he
      rw [if_pos he]
      rfl
    | succ i =>
      simp only [List.getElem_cons_succ] at he
      rw [if_neg (fun e => hn.1 (by rw [e, ← he]; exact List.getElem_mem _)), ih (a + 1) i (by simpa using h) hn.2 he]
      omega
theorem ag_read (hx : qXN w) {y : Nat} (hy : qAt (qRs w.1) y ≠ -9) (h29 : w.1.2.2.2.length ≤ 29) (hs : List qAS) : fRead (w.1, hs, qTx w y) = (w.1.2.2.2.length : Nat) ∧ gRead (w.1, hs, qTx w y) = ((w.1.1, w.1.2.1, w.1.2.2.1, w.1.2.2.2 ++ [(qAt (qRs w.1) y, (qGet w.1 y).2)]), qPush hs w.1, []) := by
  obtain ⟨nm', hr⟩ := qRun_again hx hy hs
  obtain ⟨⟨h1, h2, h3, h4, h5⟩, -⟩ := hx.1
  have hrs := qWA_rs h1 (y : Int)
  have hss : (qAt (qRs w.1) y).toNat < w.1.2.1.length := by omega
  have hsh : qRsh (w.1, hs, qTx w y) = (qAt (qRs w.1) y).toNat := by
    unfold qRsh
    rw [hr]
    have h6 := qFs_nd (F := qFr' w.1 y) w.1.2.1 0 (qAt (qRs w.1) y).toNat hss hx.2.1.1 (by
      rw [← qGf_at hss, Int.toNat_of_nonneg (by omega)]
      rfl)
    rw [Nat.zero_add] at h6
    exact h6
  have h40 : w.1.2.1.length ≤ 40 := h1.2.1
  have h60 : w.1.1.length ≤ 60 := h1.1.1
  constructor
  · unfold fRead
    rw [hsh, hr]
    dsimp only
    rw [if_neg (by omega), if_neg (by omega)]
  · unfold gRead aRead
    rw [hsh, hr]
    dsimp only
    rw [if_neg (by omega)]
    have e : qLs w.1.2.1 (qAt (qRs w.1) y).toNat (qFr' w.1 y) = w.1.2.1 := by
      unfold qLs
      rw [if_neg (by omega)]
    rw [e, Int.toNat_of_nonneg (by omega)]
theorem ag_same (w : qWd) (y : Nat) (hyl : y < w.1.2.2.2.length) {w2 : qWd} (h2 : w2.1 = (w.1.1, w.1.2.1, w.1.2.2.1, w.1.2.2.2 ++ [(qAt (qRs w.1) y, (qGet w.1 y).2)])) (x : Int) : fRecord w2 (w.1.2.2.2.length : Nat) x = fRecord w2 y x := by
  obtain ⟨a2, b2⟩ := w2
  dsimp only at h2
  subst h2
  have e1 : ∀ k : Nat, k < w.1.2.2.2.length + 1 → qAt (qRs (w.1.1, w.1.2.1, w.1.2.2.1, w.1.2.2.2 ++ [(qAt (qRs w.1) y, (qGet w.1 y).2)])) k = ((w.1.2.2.2 ++ [(qAt (qRs w.1) y, (qGet w.1 y).2)]).getD k (-9, [])).1 := by
    intro k hk
    rw [qRs_at _ (i := k) (by show k < (w.1.2.2.2 ++ [_]).length; rw [List.length_append]; simpa using hk)]
    rw [List.getD_eq_getElem?_getD, List.getElem?_eq_getElem (by rw [List.length_append]; simpa using hk)]
    rfl
  have e2 : (w.1.2.2.2 ++ [(qAt (qRs w.1) y, (qGet w.1 y).2)]).getD w.1.2.2.2.length (-9, []) = (qAt (qRs w.1) y, (qGet w.1 y).2) := by
    rw [List.getD_eq_getElem?_getD, List.getElem?_append_right (Nat.le_refl _)]
    simp
  have e3 : (w.1.2.2.2 ++ [(qAt (qRs w.1) y, (qGet w.1 y).2)]).getD y (-9, []) = qGet w.1 y := by
    unfold qGet
    rw [List.getD_eq_getElem?_getD, List.getElem?_append_left hyl, List.getD_eq_getElem?_getD]
    rfl
  have e4 := qGet_1 w.1 hyl
  have f1 := e1 w.1.2.2.2.length (by omega)
  have f2 := e1 y (by omega)
  rw [e2] at f1
  rw [e3, e4] at f2
  have g1 : qFr' (w.1.1, w.1.2.1, w.1.2.2.1, w.1.2.2.2 ++ [(qAt (qRs w.1) y, (qGet w.1 y).2)]) (w.1.2.2.2.length : Nat) = qFr' (w.1.1, w.1.2.1, w.1.2.2.1, w.1.2.2.2 ++ [(qAt (qRs w.1) y, (qGet w.1 y).2)]) y := by
    unfold qFr'
    rw [f1, f2]
  have g2 : ∀ j : Int, qVv (w.1.1, w.1.2.1, w.1.2.2.1, w.1.2.2.2 ++ [(qAt (qRs w.1) y, (qGet w.1 y).2)]) (w.1.2.2.2.length : Nat) j = qVv (w.1.1, w.1.2.1, w.1.2.2.1, w.1.2.2.2 ++ [(qAt (qRs w.1) y, (qGet w.1 y).2)]) y j := by
    intro j
    unfold qVv
    dsimp only
    rw [Int.toNat_natCast, Int.toNat_natCast, e2, e3]
  have g3 : qNvA (w.1.1, w.1.2.1, w.1.2.2.1, w.1.2.2.2 ++ [(qAt (qRs w.1) y, (qGet w.1 y).2)]) (w.1.2.2.2.length : Nat) = qNvA (w.1.1, w.1.2.1, w.1.2.2.1, w.1.2.2.2 ++ [(qAt (qRs w.1) y, (qGet w.1 y).2)]) y := by
    funext j
    unfold qNvA
    rw [g2]
  unfold fRecord
  dsimp only
  rw [g1, g3]
  dsimp only at f1 f2
  rw [f1, f2]
  simp only [g2]
theorem qPush_last (hs : List qAS) (c : qAS) : 1 ≤ (qPush hs c).length ∧ ∀ d, (qPush hs c).getD ((qPush hs c).length - 1) d = c := by
  unfold qPush
  split
  · refine ⟨by simp, fun d => ?_⟩
    rw [List.getD_eq_getElem?_getD]
    simp
  · refine ⟨by simp, fun d => ?_⟩
    rw [List.getD_eq_getElem?_getD]
    simp
theorem gUndo_push (a : qAS) (hs : List qAS) (c : qAS) (t : List Int) : (gUndo (a, qPush hs c, t)).1 = c ∧ fUndo (a, qPush hs c, t) = (qPush hs c).length - 1 := by
  have h := qPush_last hs c
  unfold gUndo fUndo
  dsimp only
  rw [if_neg (by omega), if_neg (by omega)]
  exact ⟨h.2 _, rfl⟩
theorem ag_loop {Q : qA → qM → Prop} {y : Nat} (hy : qAt (qRs w.1) y ≠ -9) (h80 : (qTx w y).length ≤ 80) : ∀ (k i : Nat) (h : Int) (m : Nat → Int → Int) (r : Nat → Int → Option Nat), qOb m r (w.1, w.2.1, (qTx w y).take i) → i + k = (qTx w y).length → (0 < i → h = i) → (∀ (m : Nat → Int → Int) (r : Nat → Int → Option Nat) (h : Int), qOb m r (w.1, w.2.1, qTx w y) → (0 < (qTx w y).length → h = (qTx w y).length) → qW m_Lw_again 66 [qK 0, qI y, qI h, qI ((qTx w y).length : Nat), none, none, none, none] [] (qT0, m, r) Q) → qW m_Lw_again 39 [qK 0, qI y, qI h, qI i, none, none, none, none] [] (qT0, m, r) Q := by
  have r3 : ∀ t, fRecord (w.1, w.2.1, t) y 3 = ((qTx w y).length : Nat) := fun t => fRecord_3 (w := (w.1, w.2.1, t)) hy
  intro k
  induction k with
  | zero =>
    intro i h m r hO hik hh kk
    have hi0 : i = (qTx w y).length := by omega
    subst hi0
    rw [List.take_length] at hO
    refine qr_il rfl rfl (w := ?_)
    refine qr_al rfl rfl (w := ?_)
    refine qr_il rfl rfl (w := ?_)
    refine qr_const rfl (w := ?_)
    refine qr_callX rfl (oRecord hO) (qrcv1 kd_0) (w := ?_)
    rw [r3]
    intro m r ⟨hO, hm⟩
    refine qr_icge rfl (fun hc => ?_) (fun hc => absurd hc (by omega))
    exact kk m r _ hO hh
  | succ k ih =>
    intro i h m r hO hik hh kk
    have hil : i < (qTx w y).length := by omega
    have hch : fCharacter (w.1, w.2.1, (qTx w y).take i) y i = qAt (qTx w y) i := fChar_at (w := (w.1, w.2.1, (qTx w y).take i)) hy
    have hcr : 44 ≤ qAt (qTx w y) i ∧ qAt (qTx w y) i ≤ 125 := by
      rw [qAt_lt hil]
      exact qTx_rng (w := (w.1, w.2.1, (qTx w y).take i)) hO.2 hy _ (List.getElem_mem _)
    have hla : ((qTx w y).take i).length = i := by
      rw [List.length_take]
      omega
    have hf : fAppend (w.1, w.2.1, (qTx w y).take i) (qAt (qTx w y) i) = ((i + 1 : Nat) : Int) := by
      unfold fAppend
      dsimp only
      rw [if_neg (by omega), if_neg (by omega), hla]
      rfl
    have hg : gAppend (w.1, w.2.1, (qTx w y).take i) (qAt (qTx w y) i) = (w.1, w.2.1, (qTx w y).take (i + 1)) := by
      unfold gAppend
      dsimp only
      rw [if_neg (by omega), List.take_add_one, List.getElem?_eq_getElem hil, qAt_lt hil]
      rfl
    refine qr_il rfl rfl (w := ?_)
    refine qr_al rfl rfl (w := ?_)
    refine qr_il rfl rfl (w := ?_)
    refine qr_const rfl (w := ?_)
    refine qr_callX rfl (oRecord hO) (qrcv1 kd_0) (w := ?_)
    rw [r3]
    intro m r ⟨hO, hm⟩
    refine qr_icge rfl (fun hc => absurd hc (by omega)) (fun hc => ?_)
    refine qr_al rfl rfl (w := ?_)
    refine qr_al rfl rfl (w := ?_)
    refine qr_il rfl rfl (w := ?_)
    refine qr_il rfl rfl (w := ?_)
    refine qr_callX rfl (oCharacter hO) (qrcv1 kd_0) (w := ?_)
    rw [hch]
    intro m r ⟨hO, hm⟩
    refine qr_callX rfl (oAppend hO) (qrcv1 kd_0) (w := ?_)
    rw [hf, hg]
    intro m r ⟨hO, hm⟩
    refine qr_is2 rfl (w := ?_)
    refine qr_inc3 rfl (by omega) (w := ?_)
    refine qr_goto rfl (w := ?_)
    exact ih (i + 1) _ m r hO (by omega) (fun _ => rfl) kk
theorem pAgain (hO : qOb m r w) {y : Nat} : qW m_Lw_again 0 [qK 0, qI y, none, none, none, none, none, none] [] (qT0, m, r) (qPe (qI 1)) := by
  obtain ⟨b1, b2, b3, b4, b5, b6⟩ := qOb_bd hO
  have c1 : fCount w 1 = (w.1.2.2.2.length : Int) := rfl
  have hrs := qWA_rs hO.2.1.1.1 (y : Int)
  by_cases hy : qAt (qRs w.1) y = -9
  · have r0 : fRecord w y 0 = -1 := fRecord_9 hy
    refine qr_al rfl rfl (w := ?_)
    refine qr_il rfl rfl (w := ?_)
    refine qr_const rfl (w := ?_)
    refine qr_callX rfl (oRecord hO) (qrcv1 kd_0) (w := ?_)
    intro m r ⟨hO, hm⟩
    refine qr_iflt rfl (fun hc => ?_) (fun hc => absurd hc (by omega))
    refine qr_const rfl (w := ?_)
    refine qW_zreturn rfl (by first | exact Or.inl rfl | exact Or.inr rfl | (simp only [qbi]; split <;> simp)) ?_
    exact ⟨m, r, rfl, rfl, _, hO⟩
  · have r0 := fRecord_0 hy
    have r3 : fRecord w y 3 = ((qTx w y).length : Nat) := fRecord_3 hy
    by_cases h29 : w.1.2.2.2.length ≤ 29
    · by_cases h80 : (qTx w y).length ≤ 80
      · skip
        have hx := hO.2
        refine qr_al rfl rfl (w := ?_)
        refine qr_il rfl rfl (w := ?_)
        refine qr_const rfl (w := ?_)
        refine qr_callX rfl (oRecord hO) (qrcv1 kd_0) (w := ?_)
        intro m r ⟨hO, hm⟩
        refine qr_iflt rfl (fun hc => absurd hc (by omega)) (fun hc => ?_)
        refine qr_al rfl rfl (w := ?_)
        refine qr_const rfl (w := ?_)
        refine qr_callX rfl (oCount hO) (qrcv1 kd_0) (w := ?_)
        intro m r ⟨hO, hm⟩
        refine qr_const rfl (w := ?_)
        refine qr_icgt rfl (fun hcf => absurd hcf (by omega)) (fun hcf => ?_)
        refine qr_al rfl rfl (w := ?_)
        refine qr_il rfl rfl (w := ?_)
        refine qr_const rfl (w := ?_)
        refine qr_callX rfl (oRecord hO) (qrcv1 kd_0) (w := ?_)
        intro m r ⟨hO, hm⟩
        refine qr_const rfl (w := ?_)
        refine qr_icle rfl (fun hcff => ?_) (fun hcff => absurd hcff (by omega))
        refine qr_al rfl rfl (w := ?_)
        refine qr_callX rfl (oClearText hO) (qrcv1 kd_0) (w := ?_)
        intro m r ⟨hO, hm⟩
        refine qr_is2 rfl (w := ?_)
        refine qr_const rfl (w := ?_)
        refine qr_is3 rfl (w := ?_)
        have hgc : gClear w = (w.1, w.2.1, (qTx w y).take 0) := rfl
        rw [hgc] at hO
        refine ag_loop hy h80 (qTx w y).length 0 _ m r hO (by omega) (fun h => absurd h (by omega)) (fun m r h hO hh => ?_)
        have hpos : 0 < (qTx w y).length := by
          rw [qTx_sf hx hy, List.length_cons]
          omega
        have hh2 := hh hpos
        obtain ⟨ar, ag⟩ := ag_read hx hy h29 w.2.1
        have hyl : y < w.1.2.2.2.length := by
          have := qHas_lt hy
          omega
        have hsm := ag_same w y hyl (w2 := ((w.1.1, w.1.2.1, w.1.2.2.1, w.1.2.2.2 ++ [(qAt (qRs w.1) y, (qGet w.1 y).2)]), qPush w.2.1 w.1, [])) rfl
        have s0 := hsm 0
        have s3 := hsm 3
        have s4 := hsm 4
        obtain ⟨gu1, gu2⟩ := gUndo_push (w.1.1, w.1.2.1, w.1.2.2.1, w.1.2.2.2 ++ [(qAt (qRs w.1) y, (qGet w.1 y).2)]) w.2.1 w.1 []
        have hpl := (qPush_last w.2.1 w.1).1
        have k1 : fCount (w.1, w.2.1, qTx w y) 1 = (w.1.2.2.2.length : Nat) := rfl
        have k2 : fCount (w.1, w.2.1, qTx w y) 2 = (w.1.1.length : Nat) := rfl
        have k3 : fCount (w.1, w.2.1, qTx w y) 3 = (w.1.2.1.length : Nat) := rfl
        have k9 : fCount ((w.1.1, w.1.2.1, w.1.2.2.1, w.1.2.2.2 ++ [(qAt (qRs w.1) y, (qGet w.1 y).2)]), qPush w.2.1 w.1, []) 9 = 0 := rfl
        have k22 : fCount ((w.1.1, w.1.2.1, w.1.2.2.1, w.1.2.2.2 ++ [(qAt (qRs w.1) y, (qGet w.1 y).2)]), qPush w.2.1 w.1, []) 2 = (w.1.1.length : Nat) := rfl
        have k23 : fCount ((w.1.1, w.1.2.1, w.1.2.2.1, w.1.2.2.2 ++ [(qAt (qRs w.1) y, (qGet w.1 y).2)]), qPush w.2.1 w.1, []) 3 = (w.1.2.1.length : Nat) := rfl
        refine qr_al rfl rfl (w := ?_)
        refine qr_const rfl (w := ?_)
        refine qr_callX rfl (oCount hO) (qrcv1 kd_0) (w := ?_)
        rw [k1]
        intro m r ⟨hO, hm⟩
        refine qr_is3 rfl (w := ?_)
        refine qr_al rfl rfl (w := ?_)
        refine qr_const rfl (w := ?_)
        refine qr_callX rfl (oCount hO) (qrcv1 kd_0) (w := ?_)
        intro m r ⟨hO, hm⟩
        refine qr_is4 rfl (w := ?_)
        refine qr_al rfl rfl (w := ?_)
        refine qr_const rfl (w := ?_)
        refine qr_callX rfl (oCount hO) (qrcv1 kd_0) (w := ?_)
        intro m r ⟨hO, hm⟩
        refine qr_is5 rfl (w := ?_)
        refine qr_al rfl rfl (w := ?_)
        refine qr_callX rfl (pMark hO) (by rfl) (w := ?_)
        intro m r hO
        refine qr_ls6 rfl (w := ?_)
        refine qr_al rfl rfl (w := ?_)
        refine qr_callX rfl (oRead hO) (qrcv1 kd_0) (w := ?_)
        rw [ar, ag]
        intro m r ⟨hO, hm⟩
        refine qr_il rfl rfl (w := ?_)
        refine qr_icne rfl (fun hc => absurd hc (by omega)) (fun hc => ?_)
        refine qr_il rfl rfl (w := ?_)
        refine qr_ifle rfl (fun hcf => absurd hcf (by omega)) (fun hcf => ?_)
        refine qr_al rfl rfl (w := ?_)
        refine qr_const rfl (w := ?_)
        refine qr_callX rfl (oCount hO) (qrcv1 kd_0) (w := ?_)
        intro m r ⟨hO, hm⟩
        refine qr_ifne rfl (fun hcff => absurd hcff (by omega)) (fun hcff => ?_)
        refine qr_al rfl rfl (w := ?_)
        refine qr_il rfl rfl (w := ?_)
        refine qr_const rfl (w := ?_)
        refine qr_callX rfl (oRecord hO) (qrcv1 kd_0) (w := ?_)
        intro m r ⟨hO, hm⟩
        refine qr_al rfl rfl (w := ?_)
        refine qr_il rfl rfl (w := ?_)
        refine qr_const rfl (w := ?_)
        refine qr_callX rfl (oRecord hO) (qrcv1 kd_0) (w := ?_)
        intro m r ⟨hO, hm⟩
        refine qr_icne rfl (fun hcfff => absurd hcfff (by omega)) (fun hcfff => ?_)
        refine qr_al rfl rfl (w := ?_)
        refine qr_il rfl rfl (w := ?_)
        refine qr_const rfl (w := ?_)
        refine qr_callX rfl (oRecord hO) (qrcv1 kd_0) (w := ?_)
        intro m r ⟨hO, hm⟩
        refine qr_al rfl rfl (w := ?_)
        refine qr_il rfl rfl (w := ?_)
        refine qr_const rfl (w := ?_)
        refine qr_callX rfl (oRecord hO) (qrcv1 kd_0) (w := ?_)
        intro m r ⟨hO, hm⟩
        refine qr_icne rfl (fun hcffff => absurd hcffff (by omega)) (fun hcffff => ?_)
        refine qr_al rfl rfl (w := ?_)
        refine qr_il rfl rfl (w := ?_)
        refine qr_const rfl (w := ?_)
        refine qr_callX rfl (oRecord hO) (qrcv1 kd_0) (w := ?_)
        intro m r ⟨hO, hm⟩
        refine qr_al rfl rfl (w := ?_)
        refine qr_il rfl rfl (w := ?_)
        refine qr_const rfl (w := ?_)
        refine qr_callX rfl (oRecord hO) (qrcv1 kd_0) (w := ?_)
        intro m r ⟨hO, hm⟩
        refine qr_icne rfl (fun hcfffff => absurd hcfffff (by omega)) (fun hcfffff => ?_)
        refine qr_al rfl rfl (w := ?_)
        refine qr_const rfl (w := ?_)
        refine qr_callX rfl (oCount hO) (qrcv1 kd_0) (w := ?_)
        intro m r ⟨hO, hm⟩
        refine qr_il rfl rfl (w := ?_)
        refine qr_icne rfl (fun hcffffff => absurd hcffffff (by omega)) (fun hcffffff => ?_)
        refine qr_al rfl rfl (w := ?_)
        refine qr_const rfl (w := ?_)
        refine qr_callX rfl (oCount hO) (qrcv1 kd_0) (w := ?_)
        intro m r ⟨hO, hm⟩
        refine qr_il rfl rfl (w := ?_)
        refine qr_icne rfl (fun hcfffffff => absurd hcfffffff (by omega)) (fun hcfffffff => ?_)
        refine qr_al rfl rfl (w := ?_)
        refine qr_callX rfl (oUndo hO) (qrcv1 kd_0) (w := ?_)
        intro m r ⟨hO, hm⟩
        refine qr_iflt rfl (fun hcffffffff => absurd hcffffffff (by omega)) (fun hcffffffff => ?_)
        refine qr_al rfl rfl (w := ?_)
        refine qr_callX rfl (pMark hO) (by rfl) (w := ?_)
        rw [gu1]
        intro m r hO
        refine qr_ll rfl rfl (w := ?_)
        refine qr_lcmp rfl (w := ?_)
        refine qr_ifne rfl (fun hcfffffffff => absurd hcfffffffff (by omega)) (fun hcfffffffff => ?_)
        refine qr_const rfl (w := ?_)
        refine qr_goto rfl (w := ?_)
        refine qW_zreturn rfl (by first | exact Or.inl rfl | exact Or.inr rfl | (simp only [qbi]; split <;> simp)) ?_
        exact ⟨m, r, rfl, rfl, _, hO⟩
      · skip
        refine qr_al rfl rfl (w := ?_)
        refine qr_il rfl rfl (w := ?_)
        refine qr_const rfl (w := ?_)
        refine qr_callX rfl (oRecord hO) (qrcv1 kd_0) (w := ?_)
        intro m r ⟨hO, hm⟩
        refine qr_iflt rfl (fun hc => absurd hc (by omega)) (fun hc => ?_)
        refine qr_al rfl rfl (w := ?_)
        refine qr_const rfl (w := ?_)
        refine qr_callX rfl (oCount hO) (qrcv1 kd_0) (w := ?_)
        intro m r ⟨hO, hm⟩
        refine qr_const rfl (w := ?_)
        refine qr_icgt rfl (fun hcf => absurd hcf (by omega)) (fun hcf => ?_)
        refine qr_al rfl rfl (w := ?_)
        refine qr_il rfl rfl (w := ?_)
        refine qr_const rfl (w := ?_)
        refine qr_callX rfl (oRecord hO) (qrcv1 kd_0) (w := ?_)
        intro m r ⟨hO, hm⟩
        refine qr_const rfl (w := ?_)
        refine qr_icle rfl (fun hcff => absurd hcff (by omega)) (fun hcff => ?_)
        refine qr_const rfl (w := ?_)
        refine qW_zreturn rfl (by first | exact Or.inl rfl | exact Or.inr rfl | (simp only [qbi]; split <;> simp)) ?_
        exact ⟨m, r, rfl, rfl, _, hO⟩
    · skip
      refine qr_al rfl rfl (w := ?_)
      refine qr_il rfl rfl (w := ?_)
      refine qr_const rfl (w := ?_)
      refine qr_callX rfl (oRecord hO) (qrcv1 kd_0) (w := ?_)
      intro m r ⟨hO, hm⟩
      refine qr_iflt rfl (fun hc => absurd hc (by omega)) (fun hc => ?_)
      refine qr_al rfl rfl (w := ?_)
      refine qr_const rfl (w := ?_)
      refine qr_callX rfl (oCount hO) (qrcv1 kd_0) (w := ?_)
      intro m r ⟨hO, hm⟩
      refine qr_const rfl (w := ?_)
      refine qr_icgt rfl (fun hcf => ?_) (fun hcf => absurd hcf (by omega))
      refine qr_const rfl (w := ?_)
      refine qW_zreturn rfl (by first | exact Or.inl rfl | exact Or.inr rfl | (simp only [qbi]; split <;> simp)) ?_
      exact ⟨m, r, rfl, rfl, _, hO⟩
