/-! The law's loop, and its start -/
theorem lw_body {p : Program} {l : Launch} {e : Env} {s : State} {m : MethodId} {below : List Frame} {meth : Method} {c : Code} {b L : Nat} {xs : Nat → Int32} (C0 : lw_At p s m meth c b L xs) (hAO : qAO s) {D : va_G} {q0 q1 cells slots : Nat} (hL : L ≤ 2048) (hroom : cells ≤ 600000 ∧ slots ≤ 7302250) {i : Nat} {H : Heap} {locs : List Loc} {ws : va_W} {tys : List (ClassId × FieldType)} {μ : Nat → Int → Int} {ρ : Nat → Int → Option Nat} {w : qWd} {ls : Array Slot} (hi0 : i ≤ 2048) (hl : lv_has ls 4 [(0, .ref b), (1, .ref q0), (2, .ref q1), (3, .int (nI i))]) (hB : qBt μ ρ w) (Hp : qHp D (fun q => s.heap.size ≤ q) s ws tys (qT0, μ, ρ) H locs) (h0 : qat ws 0 q0) (h1 : qat ws 176 q1)
    (kk : i + 4 ≤ L → ∀ (μ' : Nat → Int → Int) (ρ' : Nat → Int → Option Nat) (w' : qWd) (ws' : va_W) (tys' : List (ClassId × FieldType)) (H' : Heap) (locs' : List Loc) (ls' : Array Slot), lv_has ls' 4 [(0, .ref b), (1, .ref q0), (2, .ref q1), (3, .int (nI (i + 4)))] → qBt μ' ρ' w' → qHp D (fun q => s.heap.size ≤ q) s ws' tys' (qT0, μ', ρ') H' locs' → qat ws' 0 q0 → qat ws' 176 q1 → W p l e room_1 s m #[Value.ref b] below meth c H' locs' cells slots (lw_Z below #[Value.ref b] s) (F0 m 18 ls' [])) : W p l e room_1 s m #[Value.ref b] below meth c H locs cells slots (lw_Z below #[Value.ref b] s) (F0 m 18 ls []) := by
  obtain ⟨hx, hb, hr, hml, hown, hts0, hX, hbl, hlk2, hgv⟩ := id C0
  have hbA : ¬ (fun q : Nat => s.heap.size ≤ q) b := Nat.not_le.mpr hbl
  have hS := Hp.2.2.2.2
  refine lv_iload_n hx hb dl_18 rfl (lv_at hl 3 rfl) ?_
  refine lv_aload_n hx hb dl_19 rfl (lv_at hl 0 rfl) ?_
  refine va_slen hx hb hX hbl hbA hS dl_20 ?_
  refine lv_iconst (v := 4) hx hb dl_21 (by decide) ?_
  refine lv_isub hx hb dl_22 ?_
  refine lv_icmp_gt (tgt := 637) hx hb dl_23 (by decide) (fun hc => ?_) (fun hc => ?_)
  · refine lv_iconst (v := 1) hx hb dl_637 (by decide) ?_
    refine va_forget (fun q hq => hS.2.2 q hq) ?_
    refine W.widen (k := 600000) (n := 7302250) hroom.1 hroom.2 ?_
    exact lw_ret hx hb hr hlk2 dl_638
  · have e4 : (Int32.ofNat L - 4).toInt = (L : Int) - 4 := by
      rw [show Int32.ofNat L - 4 = Int32.ofInt ((L : Int) - 4) from by rw [Int32.ofInt_sub, Int32.ofInt_eq_ofNat]; rfl]
      exact qti ⟨by omega, by omega⟩
    have hi : i + 4 ≤ L := by
      rw [Int32.lt_iff_toInt_lt, e4, nI_toInt (by omega)] at hc
      omega
    have KK : ∀ (μ' : Nat → Int → Int) (ρ' : Nat → Int → Option Nat) (w' : qWd) (ws' : va_W) (tys' : List (ClassId × FieldType)) (H' : Heap) (locs' : List Loc), qBt μ' ρ' w' → qHp D (fun q => s.heap.size ≤ q) s ws' tys' (qT0, μ', ρ') H' locs' → qat ws' 0 q0 → qat ws' 176 q1 → W p l e room_1 s m #[Value.ref b] below meth c H' locs' cells slots (lw_Z below #[Value.ref b] s) (F0 m 631 ls []) := by
      intro μ' ρ' w' ws' tys' H' locs' g1 g2 g3 g4
      refine lv_iinc (v := nI (i + 4)) (lv' := [(3, .int (nI (i + 4))), (0, .ref b), (1, .ref q0), (2, .ref q1)]) hx hb dl_631 hl (k := 3) rfl (by rw [← nI_add]; rfl) (by decide) rfl (fun ls2 hl2 => ?_)
      refine lv_goto (tgt := 18) hx hb dl_634 (by decide) ?_
      exact kk hi _ _ _ _ _ _ _ _ (lv_sub hl2 [1, 2, 3, 0] rfl) g1 g2 g3 g4
    refine lv_aload_n hx hb dl_26 rfl (lv_at hl 0 rfl) ?_
    refine lv_iload_n hx hb dl_27 rfl (lv_at hl 3 rfl) ?_
    refine va_sld hx hb hX hbl hbA hS (vp_in_nI (by omega) (by omega)) dl_28 ?_
    refine lv_bipush (v := 31) hx hb dl_29 (by decide) ?_
    refine lv_iand hx hb dl_31 ?_
    generalize xs (nI i).toNatClampNeg &&& 31 = z
    by_cases hz : z.toInt < 0 ∨ 18 < z.toInt
    · refine lv_tableOut (tgt := 631) hx hb dl_32 hz (by decide) ?_
      exact KK _ _ _ _ _ _ _ hB Hp h0 h1
    · have z1 : ¬ z.toInt < 0 := fun h => hz (Or.inl h)
      have z2 : ¬ 18 < z.toInt := fun h => hz (Or.inr h)
      rcases (by omega : z.toInt = 0 ∨ z.toInt = 1 ∨ z.toInt = 2 ∨ z.toInt = 3 ∨ z.toInt = 4 ∨ z.toInt = 5 ∨ z.toInt = 6 ∨ z.toInt = 7 ∨ z.toInt = 8 ∨ z.toInt = 9 ∨ z.toInt = 10 ∨ z.toInt = 11 ∨ z.toInt = 12 ∨ z.toInt = 13 ∨ z.toInt = 14 ∨ z.toInt = 15 ∨ z.toInt = 16 ∨ z.toInt = 17 ∨ z.toInt = 18) with hk | hk | hk | hk | hk | hk | hk | hk | hk | hk | hk | hk | hk | hk | hk | hk | hk | hk | hk
      · refine lv_tableIn (off := 92) (tgt := 124) hx hb dl_32 z1 z2 (by rw [hk]; rfl) (by decide) ?_
        exact lw_case_0 C0 hAO hL hi hl hB Hp h0 h1 hroom KK
      · refine lv_tableIn (off := 115) (tgt := 147) hx hb dl_32 z1 z2 (by rw [hk]; rfl) (by decide) ?_
        exact lw_case_1 C0 hAO hL hi hl hB Hp h0 h1 hroom KK
      · refine lv_tableIn (off := 128) (tgt := 160) hx hb dl_32 z1 z2 (by rw [hk]; rfl) (by decide) ?_
        exact lw_case_2 C0 hAO hL hi hl hB Hp h0 h1 hroom KK
      · refine lv_tableIn (off := 141) (tgt := 173) hx hb dl_32 z1 z2 (by rw [hk]; rfl) (by decide) ?_
        exact lw_case_3 C0 hAO hL hi hl hB Hp h0 h1 hroom KK
      · refine lv_tableIn (off := 164) (tgt := 196) hx hb dl_32 z1 z2 (by rw [hk]; rfl) (by decide) ?_
        exact lw_case_4 C0 hAO hL hi hl hB Hp h0 h1 hroom KK
      · refine lv_tableIn (off := 207) (tgt := 239) hx hb dl_32 z1 z2 (by rw [hk]; rfl) (by decide) ?_
        exact lw_case_5 C0 hAO hL hi hl hB Hp h0 h1 hroom KK
      · refine lv_tableIn (off := 240) (tgt := 272) hx hb dl_32 z1 z2 (by rw [hk]; rfl) (by decide) ?_
        exact lw_case_6 C0 hAO hL hi hl hB Hp h0 h1 hroom KK
      · refine lv_tableIn (off := 263) (tgt := 295) hx hb dl_32 z1 z2 (by rw [hk]; rfl) (by decide) ?_
        exact lw_case_7 C0 hAO hL hi hl hB Hp h0 h1 hroom KK
      · refine lv_tableIn (off := 276) (tgt := 308) hx hb dl_32 z1 z2 (by rw [hk]; rfl) (by decide) ?_
        exact lw_case_8 C0 hAO hL hi hl hB Hp h0 h1 hroom KK
      · refine lv_tableIn (off := 299) (tgt := 331) hx hb dl_32 z1 z2 (by rw [hk]; rfl) (by decide) ?_
        exact lw_case_9 C0 hAO hL hi hl hB Hp h0 h1 hroom KK
      · refine lv_tableIn (off := 332) (tgt := 364) hx hb dl_32 z1 z2 (by rw [hk]; rfl) (by decide) ?_
        exact lw_case_10 C0 hAO hL hi hl hB Hp h0 h1 hroom KK
      · refine lv_tableIn (off := 365) (tgt := 397) hx hb dl_32 z1 z2 (by rw [hk]; rfl) (by decide) ?_
        exact lw_case_11 C0 hAO hL hi hl hB Hp h0 h1 hroom KK
      · refine lv_tableIn (off := 398) (tgt := 430) hx hb dl_32 z1 z2 (by rw [hk]; rfl) (by decide) ?_
        exact lw_case_12 C0 hAO hL hi hl hB Hp h0 h1 hroom KK
      · refine lv_tableIn (off := 431) (tgt := 463) hx hb dl_32 z1 z2 (by rw [hk]; rfl) (by decide) ?_
        exact lw_case_13 C0 hAO hL hi hl hB Hp h0 h1 hroom KK
      · refine lv_tableIn (off := 464) (tgt := 496) hx hb dl_32 z1 z2 (by rw [hk]; rfl) (by decide) ?_
        exact lw_case_14 C0 hAO hL hi hl hB Hp h0 h1 hroom KK
      · refine lv_tableIn (off := 507) (tgt := 539) hx hb dl_32 z1 z2 (by rw [hk]; rfl) (by decide) ?_
        exact lw_case_15 C0 hAO hL hi hl hB Hp h0 h1 hroom KK
      · refine lv_tableIn (off := 540) (tgt := 572) hx hb dl_32 z1 z2 (by rw [hk]; rfl) (by decide) ?_
        exact lw_case_16 C0 hAO hL hi hl hB Hp h0 h1 hroom KK
      · refine lv_tableIn (off := 563) (tgt := 595) hx hb dl_32 z1 z2 (by rw [hk]; rfl) (by decide) ?_
        exact lw_case_17 C0 hAO hL hi hl hB Hp h0 h1 hroom KK
      · refine lv_tableIn (off := 576) (tgt := 608) hx hb dl_32 z1 z2 (by rw [hk]; rfl) (by decide) ?_
        exact lw_case_18 C0 hAO hL hi hl hB Hp h0 h1 hroom KK
theorem lw_loop {p : Program} {l : Launch} {e : Env} {s : State} {m : MethodId} {below : List Frame} {meth : Method} {c : Code} {b L : Nat} {xs : Nat → Int32} (C0 : lw_At p s m meth c b L xs) (hAO : qAO s) {D : va_G} {q0 q1 cells slots : Nat} (hL : L ≤ 2048) (hroom : cells ≤ 600000 ∧ slots ≤ 7302250) : ∀ (k i : Nat), i ≤ 2048 → L < i + k → ∀ (μ : Nat → Int → Int) (ρ : Nat → Int → Option Nat) (w : qWd) (ws : va_W) (tys : List (ClassId × FieldType)) (H : Heap) (locs : List Loc) (ls : Array Slot), lv_has ls 4 [(0, .ref b), (1, .ref q0), (2, .ref q1), (3, .int (nI (i)))] → qBt μ ρ w → qHp D (fun q => s.heap.size ≤ q) s ws tys (qT0, μ, ρ) H locs → qat ws 0 q0 → qat ws 176 q1 → W p l e room_1 s m #[Value.ref b] below meth c H locs cells slots (lw_Z below #[Value.ref b] s) (F0 m 18 ls []) := by
  intro k
  induction k with
  | zero =>
    intro i hi0 hk μ ρ w ws tys H locs ls hl hB Hp h0 h1
    exact lw_body C0 hAO hL hroom hi0 hl hB Hp h0 h1 (fun h => absurd hk (by omega))
  | succ k ih =>
    intro i hi0 hk μ ρ w ws tys H locs ls hl hB Hp h0 h1
    exact lw_body C0 hAO hL hroom hi0 hl hB Hp h0 h1 (fun h => ih (i + 4) (by omega) (by omega))
theorem qrun1_some : qrun1 = some (none, qs1) := by
  have h1 := qrun1_T
  cases hx : qrun1 with
  | none => rw [hx] at h1; cases h1
  | some x =>
    rw [hx] at h1
    have h2 : (x.1, x.2.1) = (none, qT0.take 176) := Option.some.inj h1
    have h3 : qs1 = x.2 := by unfold qs1; rw [hx]
    rw [h3]
    exact congrArg some (Prod.ext (Prod.mk.inj h2).1 rfl)
theorem qrun2_some : qrun2 = some (none, qs2) := by
  have h1 := qrun2_T
  cases hx : qrun2 with
  | none => rw [hx] at h1; cases h1
  | some x =>
    rw [hx] at h1
    have h2 : (x.1, x.2.1) = (none, qT0) := Option.some.inj h1
    have h3 : qs2 = x.2 := by unfold qs2; rw [hx]
    rw [h3]
    exact congrArg some (Prod.ext (Prod.mk.inj h2).1 rfl)
theorem qs1_T : qs1.1 = qT0.take 176 := by
  have h1 := qrun1_T
  rw [qrun1_some] at h1
  exact (Prod.mk.inj (Option.some.inj h1)).2
theorem qrun1_call : qev 6000 m_LR_init 0 (qent m_LR_init (qK 0 :: [])) [] qs0 = some (none, qs1) := by
  rw [show qent m_LR_init (qK 0 :: []) = [qK 0] from rfl]
  exact qrun1_some
theorem qrun2_call : qev 200 m_Mo_init 0 (qent m_Mo_init (qK 176 :: [])) [] (qold qs1 (0, 8)) = some (none, qs2) := qrun2_some
theorem qs0_new : qold (([] : List (Nat × Nat)), (fun _ _ => 0), (fun _ _ => none)) (0, 7) = qs0 := by
  refine Prod.ext rfl (Prod.ext ?_ ?_)
  · funext a j
    show (if a = 0 then (0 : Int) else 0) = 0
    split <;> rfl
  · funext a j
    show (if a = 0 then (none : Option Nat) else none) = none
    split <;> rfl
theorem qs1_n : qs1.1.length = 176 ∧ qsz qs1.1 ≤ 7302000 := by
  rw [qs1_T]
  decide +kernel
theorem qs2_n : qs2.1.length = 188 ∧ qsz qs2.1 ≤ 7302250 := by
  rw [qs2_T]
  decide +kernel
theorem q3_eq {σ : qM} {T : List (Nat × Nat)} (h : σ.1 = T) : σ = (T, σ.2.1, σ.2.2) := by
  obtain ⟨a, b, c⟩ := σ
  cases h
  rfl
theorem qs2_eq : qs2 = (qT0, qm2, qr2) := by
  unfold qm2 qr2
  exact q3_eq qs2_T
theorem qold_n {σ : qM} {ci : Nat} : (qold σ (0, ci)).1.length = σ.1.length + 1 ∧ qsz (qold σ (0, ci)).1 = qsz σ.1 + (qfs ci).length := ⟨by simp [qold], by simp [qold, qsz_app, qsz, qszk]⟩
theorem qfs8_n : (qfs 8).length = 19 := rfl
theorem qs3_n : (qold qs1 (0, 8)).1.length = 177 ∧ qsz (qold qs1 (0, 8)).1 = qsz qs1.1 + 19 := by
  have h := qold_n (σ := qs1) (ci := 8)
  rw [qs1_n.1, qfs8_n] at h
  exact h
/-- THE LAW, from its entry -/
theorem whole_start {p : Program} {e : Env} {s : State} {m : MethodId} {below : List Frame} {meth : Method} {c : Code} (l : Launch) (hflags : l.flags = flags0) {b L : Nat} {xs : Nat → Int32} (hL : L ≤ 2048) (C0 : lw_At p s m meth c b L xs) : W p l e room_1 s m #[Value.ref b] below meth c s.heap [] 0 0 (lw_Z below #[Value.ref b] s) (entryFrame m ([Value.ref b] : List Value).toArray 4) := by
  obtain ⟨hx, hb, hr, hml, hown, hts0, hX, hbl, hlk2, hgv⟩ := id C0
  obtain ⟨D, hK⟩ := lw_K C0
  have hAO := lw_AO C0
  have Hp0 : qHp D (fun q => s.heap.size ≤ q) s [] [] (([] : List (Nat × Nat)), (fun _ _ => 0), (fun _ _ => none)) s.heap [] := ⟨⟨rfl, fun k kd h => by simp at h⟩, fun k q h => by simp at h, hK, ⟨fun i j p q h => by simp at h, fun k q h => by simp at h⟩, va_S.rf⟩
  have hl := lv_entry ([.ref b]) (n := 4) (Nat.le_of_ble_eq_true rfl)
  rw [lg_entry_eq]
  generalize (lg_sl ([.ref b]) ++ List.replicate (4 - (lg_sl ([.ref b])).length) Slot.unset).toArray = ls at hl ⊢
  have hl : lv_has ls 4 [(0, .ref b)] := hl
  refine lw_newK C0 hAO (ci := 7) Hp0 (by decide) lw_cl7 dl_0 ⟨Nat.le_of_ble_eq_true rfl, Nat.le_of_ble_eq_true rfl⟩ (fun ws1 H1 q0 x1 h0 Hp1 => ?_)
  rw [qs0_new] at Hp1
  have h0 : qat ws1 0 q0 := h0
  refine lv_dup hx hb dl_3 rfl ?_
  refine lw_callI C0 hAO (k0 := 0) (as := []) (As := []) (rest := [.ref q0]) qrun1_call Hp1 h0 trivial hl.1 rfl rfl ⟨by rw [qs1_n.1]; exact Nat.le_of_ble_eq_true rfl, Nat.le_trans qs1_n.2 (Nat.le_of_ble_eq_true rfl)⟩ (Nat.le_of_ble_eq_true rfl) dl_4 (lw_ml_at rfl) (Nat.le_of_ble_eq_true rfl) rfl (Nat.le_of_ble_eq_true rfl) rfl ⟨Nat.le_of_ble_eq_true rfl, Nat.le_of_ble_eq_true rfl⟩ (fun ws2 tys2 H2 locs2 cells2 slots2 x2 Hp2 c2 s2 => ?_)
  refine lv_astore_n (lv' := [(1, .ref q0), (0, .ref b)]) hx hb dl_7 rfl hl (by decide) rfl (fun ls2 hl2 => ?_)
  have n1 := qs1_n
  have n3 := qs3_n
  have n2 := qs2_n
  refine lw_newK C0 hAO (ci := 8) Hp2 (by decide) lw_cl8 dl_8 ⟨by omega, by show slots2 + 19 ≤ 7302250; omega⟩ (fun ws3 H3 q1 x3 h1 Hp3 => ?_)
  rw [n1.1] at h1
  refine lv_dup hx hb dl_11 rfl ?_
  refine lw_callI C0 hAO (k0 := 176) (as := []) (As := []) (rest := [.ref q1]) qrun2_call Hp3 h1 trivial hl2.1 (by omega) (by show slots2 + 19 = _; omega) ⟨by rw [n2.1]; exact Nat.le_of_ble_eq_true rfl, n2.2⟩ (Nat.le_of_ble_eq_true rfl) dl_12 (lw_ml_at rfl) (Nat.le_of_ble_eq_true rfl) rfl (Nat.le_of_ble_eq_true rfl) rfl ⟨Nat.le_of_ble_eq_true rfl, Nat.le_of_ble_eq_true rfl⟩ (fun ws4 tys4 H4 locs4 cells4 slots4 x4 Hp4 c4 s4 => ?_)
  refine lv_astore_n (lv' := [(2, .ref q1), (1, .ref q0), (0, .ref b)]) hx hb dl_15 rfl hl2 (by decide) rfl (fun ls3 hl3 => ?_)
  refine lv_iconst (v := nI 0) hx hb dl_16 (by decide) ?_
  refine lv_istore_n (lv' := [(3, .int (nI 0)), (2, .ref q1), (1, .ref q0), (0, .ref b)]) hx hb dl_17 rfl hl3 (by decide) rfl (fun ls4 hl4 => ?_)
  rw [qs2_eq] at Hp4
  exact lw_loop C0 hAO hL ⟨by omega, by omega⟩ (L + 1) 0 (by omega) (by omega) _ _ _ _ _ _ _ _ (lv_sub hl4 [3, 2, 1, 0] rfl) ⟨qCp0, qMo0, qWN0⟩ Hp4 (x4 _ _ (x3 _ _ (x2 _ _ h0))) (x4 _ _ h1)
