/-! The law's walk -/
theorem qinI (v : Int32) : qin v.toInt := ⟨by have := Int32.le_toInt v; omega, by have := Int32.toInt_lt v; omega⟩
theorem qvr_w {ws : va_W} (v : Int32) : qvr ws (.inl v.toInt) (.int v) := ⟨by rw [Int32.ofInt_toInt], qinI v⟩
theorem lw_last {p : Program} {l : Launch} {e : Env} {s : State} {m : MethodId} {below : List Frame} {meth : Method} {c : Code} {b L : Nat} {xs : Nat → Int32} (C0 : lw_At p s m meth c b L xs) (hAO : qAO s) {D : va_G} {q0 q1 cells slots : Nat} (hL : L ≤ 260) (hroom : cells ≤ 600000 ∧ slots ≤ 7302250) {i : Nat} {H : Heap} {locs : List Loc} {ws : va_W} {tys : List (ClassId × FieldType)} {μ : Nat → Int → Int} {ρ : Nat → Int → Option Nat} {w : qWd} {ls : Array Slot} (hl : lv_has ls 4 [(0, .ref b), (1, .ref q0), (2, .ref q1), (3, .int (nI i))]) (hO : qOb μ ρ w) (Hp : qHp D (fun q => s.heap.size ≤ q) s ws tys (qT0, μ, ρ) H locs) (h0 : qat ws 0 q0) (h1 : qat ws 176 q1) : W p l e room_1 s m #[Value.ref b] below meth c H locs cells slots (lw_Z below #[Value.ref b] s) (F0 m 97 ls []) := by
  obtain ⟨hx, hb, hr, hml, hown, hts0, hX, hbl, hlk2, hgv⟩ := id C0
  obtain ⟨b1, b2, b3, b4, b5, b6⟩ := qOb_bd hO
  refine lv_aload_n hx hb dl_97 rfl (lv_at hl 1 rfl) ?_
  refine lv_iconst (v := Int32.ofInt 1) hx hb dl_98 rfl ?_
  obtain ⟨n9, x9, σ9, hev, m9, r9, rfl, rfl, ⟨hO, hm⟩⟩ := oCount hO (x := 1)
  refine lw_callV C0 hAO (B := m_LR_count) (k0 := 0) (as := [qI 1]) (As := [.int (Int32.ofInt 1)]) (rest := []) hev Hp h0 ⟨⟨rfl, by decide⟩, trivial⟩ hl.1 rfl kd_0 hroom (Nat.le_of_ble_eq_true rfl) dl_99 (lw_ml_at rfl) (Nat.le_of_ble_eq_true rfl) rfl (Nat.le_of_ble_eq_true rfl) rfl rfl ⟨Nat.le_of_ble_eq_true rfl, Nat.le_of_ble_eq_true rfl⟩ (fun ws9 tys9 H9 locs9 x9 Hp => ?_)
  have h0 := x9 _ _ h0
  have h1 := x9 _ _ h1
  have hc : fCount w 1 = (w.1.2.2.2.length : Nat) := rfl
  rw [hc]
  generalize hn : w.1.2.2.2.length = n
  refine lv_istore_n (lv' := [(3, .int (Int32.ofInt n)), (0, .ref b), (1, .ref q0), (2, .ref q1)]) hx hb dl_102 rfl hl (by decide) rfl (fun ls2 hl2 => ?_)
  clear hl
  have hl : lv_has ls2 4 [(0, .ref b), (1, .ref q0), (2, .ref q1), (3, .int (Int32.ofInt n))] := lv_sub hl2 [1, 2, 3, 0] rfl
  refine lv_aload_n hx hb dl_103 rfl (lv_at hl 1 rfl) ?_
  obtain ⟨n9, x9, σ9, hev, m9, r9, rfl, rfl, hO⟩ := pSound hO
  refine lw_callS C0 hAO (B := m_Lw_sound) (as := [qK 0]) (As := [.ref q0]) (rest := []) hev Hp ⟨⟨q0, h0, rfl⟩, trivial⟩ hl.1 rfl hroom (Nat.le_of_ble_eq_true rfl) dl_104 (lw_ml_at rfl) (Nat.le_of_ble_eq_true rfl) rfl (Nat.le_of_ble_eq_true rfl) rfl rfl ⟨Nat.le_of_ble_eq_true rfl, Nat.le_of_ble_eq_true rfl⟩ (fun ws9 tys9 H9 locs9 x9 Hp => ?_)
  have h0 := x9 _ _ h0
  have h1 := x9 _ _ h1
  refine lv_if_eq (tgt := 142) hx hb dl_107 (by decide) (fun h => absurd h (by decide)) (fun _ => ?_)
  refine lv_iload_n hx hb dl_110 rfl (lv_at hl 3 rfl) ?_
  have hfin : ∀ (μ : Nat → Int → Int) (ρ : Nat → Int → Option Nat) (ws : va_W) (tys : List (ClassId × FieldType)) (H : Heap) (locs : List Loc) (w : qWd), qOb μ ρ w → qHp D (fun q => s.heap.size ≤ q) s ws tys (qT0, μ, ρ) H locs → qat ws 0 q0 → qat ws 176 q1 → W p l e room_1 s m #[Value.ref b] below meth c H locs cells slots (lw_Z below #[Value.ref b] s) (F0 m 131 ls2 []) := by
    intro μ ρ ws tys H locs w hO Hp h0 h1
    refine lv_aload_n hx hb dl_131 rfl (lv_at hl 1 rfl) ?_
    obtain ⟨n9, x9, σ9, hev, m9, r9, rfl, rfl, hO⟩ := pFails hO
    refine lw_callS C0 hAO (B := m_Lw_fails) (as := [qK 0]) (As := [.ref q0]) (rest := []) hev Hp ⟨⟨q0, h0, rfl⟩, trivial⟩ hl.1 rfl hroom (Nat.le_of_ble_eq_true rfl) dl_132 (lw_ml_at rfl) (Nat.le_of_ble_eq_true rfl) rfl (Nat.le_of_ble_eq_true rfl) rfl rfl ⟨Nat.le_of_ble_eq_true rfl, Nat.le_of_ble_eq_true rfl⟩ (fun ws9 tys9 H9 locs9 x9 Hp => ?_)
    have h0 := x9 _ _ h0
    have h1 := x9 _ _ h1
    refine lv_if_eq (tgt := 142) hx hb dl_135 (by decide) (fun h => absurd h (by decide)) (fun _ => ?_)
    refine lv_iconst (v := 1) hx hb dl_138 (by decide) ?_
    refine lv_goto (tgt := 143) hx hb dl_139 (by decide) ?_
    refine va_forget (fun q hq => Hp.2.2.2.2.2.2 q hq) ?_
    refine W.widen (k := 600000) (n := 7302250) hroom.1 hroom.2 ?_
    exact lw_ret hx hb hr hlk2 dl_143
  refine lv_if_eq (tgt := 131) hx hb dl_111 (by decide) (fun h => ?_) (fun h => ?_)
  · exact hfin _ _ _ _ _ _ _ hO Hp h0 h1
  · have hpos : 0 < n := Nat.pos_of_ne_zero (fun e => h (by rw [e]; rfl))
    have hqn : qin (n : Int) := ⟨by omega, by omega⟩
    refine lv_aload_n hx hb dl_114 rfl (lv_at hl 1 rfl) ?_
    refine lv_aload_n hx hb dl_115 rfl (lv_at hl 0 rfl) ?_
    refine lv_bipush (v := nI 16) hx hb dl_116 (by decide) ?_
    refine lw_callC C0 hAO hL (k := 16) (by decide) (rest := [.ref q0]) Hp hl.1 hroom (Nat.le_of_ble_eq_true rfl) dl_118 (fun v locs8 Hp => ?_)
    refine lv_iload_n hx hb dl_121 rfl (lv_at hl 3 rfl) ?_
    have hu := fUp_rng (x := v.toInt) (y := (n : Int)) (by omega)
    obtain ⟨n8, x8, σ8, hev8, rfl, rfl⟩ := pUp (m := m9) (r := r9) (x := v.toInt) (y := (n : Int)) (by omega) (T := qT0)
    refine lw_callS C0 hAO (B := m_Lw_up) (as := [qI v.toInt, qI n]) (As := [.int v, .int (Int32.ofInt n)]) (rest := [.ref q0]) hev8 Hp ⟨qvr_w v, ⟨rfl, hqn⟩, trivial⟩ hl.1 rfl hroom (Nat.le_of_ble_eq_true rfl) dl_122 (lw_ml_at rfl) (Nat.le_of_ble_eq_true rfl) rfl (Nat.le_of_ble_eq_true rfl) rfl rfl ⟨Nat.le_of_ble_eq_true rfl, Nat.le_of_ble_eq_true rfl⟩ (fun ws8 tys8 H8 locs8 x8 Hp => ?_)
    have h0 := x8 _ _ h0
    have h1 := x8 _ _ h1
    obtain ⟨y, hy⟩ : ∃ y : Nat, fUp v.toInt n = y := ⟨(fUp v.toInt n).toNat, by omega⟩
    rw [hy]
    obtain ⟨n9, x9, σ9, hev, m9, r9, rfl, rfl, ⟨w9, hO⟩⟩ := pAgain hO (y := y)
    refine lw_callS C0 hAO (B := m_Lw_again) (as := [qK 0, qI y]) (As := [.ref q0, .int (Int32.ofInt y)]) (rest := []) hev Hp ⟨⟨q0, h0, rfl⟩, ⟨rfl, ⟨by omega, by omega⟩⟩, trivial⟩ hl.1 rfl hroom (Nat.le_of_ble_eq_true rfl) dl_125 (lw_ml_at rfl) (Nat.le_of_ble_eq_true rfl) rfl (Nat.le_of_ble_eq_true rfl) rfl rfl ⟨Nat.le_of_ble_eq_true rfl, Nat.le_of_ble_eq_true rfl⟩ (fun ws9 tys9 H9 locs9 x9 Hp => ?_)
    have h0 := x9 _ _ h0
    have h1 := x9 _ _ h1
    refine lv_if_eq (tgt := 142) hx hb dl_128 (by decide) (fun h => absurd h (by decide)) (fun _ => ?_)
    exact hfin _ _ _ _ _ _ _ hO Hp h0 h1
theorem lw_loop {p : Program} {l : Launch} {e : Env} {s : State} {m : MethodId} {below : List Frame} {meth : Method} {c : Code} {b L : Nat} {xs : Nat → Int32} (C0 : lw_At p s m meth c b L xs) (hAO : qAO s) {D : va_G} {q0 q1 cells slots : Nat} (hL : L ≤ 260) (hroom : cells ≤ 600000 ∧ slots ≤ 7302250) : ∀ (k i : Nat) (μ : Nat → Int → Int) (ρ : Nat → Int → Option Nat) (w : qWd) (ws : va_W) (tys : List (ClassId × FieldType)) (H : Heap) (locs : List Loc) (ls : Array Slot), i + k = 16 → lv_has ls 4 [(0, .ref b), (1, .ref q0), (2, .ref q1), (3, .int (nI i))] → qOb μ ρ w → qHp D (fun q => s.heap.size ≤ q) s ws tys (qT0, μ, ρ) H locs → qat ws 0 q0 → qat ws 176 q1 → W p l e room_1 s m #[Value.ref b] below meth c H locs cells slots (lw_Z below #[Value.ref b] s) (F0 m 70 ls []) := by
  obtain ⟨hx, hb, hr, hml, hown, hts0, hX, hbl, hlk2, hgv⟩ := id C0
  intro k
  induction k with
  | zero =>
    intro i μ ρ w ws tys H locs ls hik hl hO Hp h0 h1
    have hi : i = 16 := by omega
    subst hi
    refine lv_iload_n hx hb dl_70 rfl (lv_at hl 3 rfl) ?_
    refine lv_bipush (v := nI 16) hx hb dl_71 (by decide) ?_
    refine lv_icmp_ge (tgt := 97) hx hb dl_73 (by decide) (fun _ => ?_) (fun h => absurd (Int32.le_refl _) h)
    exact lw_last C0 hAO hL hroom hl hO Hp h0 h1
  | succ k ih =>
    intro i μ ρ w ws tys H locs ls hik hl hO Hp h0 h1
    refine lv_iload_n hx hb dl_70 rfl (lv_at hl 3 rfl) ?_
    refine lv_bipush (v := nI 16) hx hb dl_71 (by decide) ?_
    refine lv_icmp_ge (tgt := 97) hx hb dl_73 (by decide) (fun h => ?_) (fun _ => ?_)
    · rw [Int32.le_iff_toInt_le, nI_toInt (by omega), nI_toInt (by omega)] at h
      omega
    refine lv_aload_n hx hb dl_76 rfl (lv_at hl 1 rfl) ?_
    refine lv_aload_n hx hb dl_77 rfl (lv_at hl 0 rfl) ?_
    refine lv_iload_n hx hb dl_78 rfl (lv_at hl 3 rfl) ?_
    refine lw_callC C0 hAO hL (k := i) (by omega) (rest := [.ref q0]) Hp hl.1 hroom (Nat.le_of_ble_eq_true rfl) dl_79 (fun v locs8 Hp => ?_)
    refine lv_aload_n hx hb dl_82 rfl (lv_at hl 2 rfl) ?_
    obtain ⟨n9, x9, σ9, hev, m9, r9, rfl, rfl, ⟨w9, hO⟩⟩ := pActs hO (q := v.toInt)
    refine lw_callS C0 hAO (B := m_Lw_acts) (as := [qK 0, qI v.toInt, qK 176]) (As := [.ref q0, .int v, .ref q1]) (rest := []) hev Hp ⟨⟨q0, h0, rfl⟩, qvr_w v, ⟨q1, h1, rfl⟩, trivial⟩ hl.1 rfl hroom (Nat.le_of_ble_eq_true rfl) dl_83 (lw_ml_at rfl) (Nat.le_of_ble_eq_true rfl) rfl (Nat.le_of_ble_eq_true rfl) rfl rfl ⟨Nat.le_of_ble_eq_true rfl, Nat.le_of_ble_eq_true rfl⟩ (fun ws9 tys9 H9 locs9 x9 Hp => ?_)
    have h0 := x9 _ _ h0
    have h1 := x9 _ _ h1
    refine lv_if_ne (tgt := 91) hx hb dl_86 (by decide) (fun _ => ?_) (fun h => absurd h (by decide))
    refine lv_iinc (v := nI (i + 1)) (lv' := [(3, .int (nI (i + 1))), (0, .ref b), (1, .ref q0), (2, .ref q1)]) hx hb dl_91 hl (k := 3) rfl (by rw [← nI_add]; rfl) (by decide) rfl (fun ls2 hl2 => ?_)
    refine lv_goto (tgt := 70) hx hb dl_94 (by decide) ?_
    exact ih (i + 1) _ _ _ _ _ _ _ _ (by omega) (lv_sub hl2 [1, 2, 3, 0] rfl) hO Hp h0 h1
theorem qw0_f : fUndo qw0 = -2 ∧ gUndo qw0 = qw0 ∧ fRead qw0 = -1000 ∧ gRead qw0 = qw0 ∧ fCount qw0 7 = 2 ∧ fBest qw0 = 1 ∧ fCount qw0 6 = 0 := by
  refine ⟨rfl, rfl, ?_, ?_, rfl, by decide +kernel, by decide +kernel⟩
  · decide +kernel
  · unfold gRead
    rw [if_pos (Or.inl (Or.inr (by decide +kernel)))]
theorem lw_first {p : Program} {l : Launch} {e : Env} {s : State} {m : MethodId} {below : List Frame} {meth : Method} {c : Code} {b L : Nat} {xs : Nat → Int32} (C0 : lw_At p s m meth c b L xs) (hAO : qAO s) {D : va_G} {q0 q1 cells slots : Nat} (hL : L ≤ 260) (hroom : cells ≤ 600000 ∧ slots ≤ 7302250) {H : Heap} {locs : List Loc} {ws : va_W} {tys : List (ClassId × FieldType)} {μ : Nat → Int → Int} {ρ : Nat → Int → Option Nat} {ls : Array Slot} (hl : lv_has ls 4 [(0, .ref b), (1, .ref q0), (2, .ref q1)]) (hO : qOb μ ρ qw0) (Hp : qHp D (fun q => s.heap.size ≤ q) s ws tys (qT0, μ, ρ) H locs) (h0 : qat ws 0 q0) (h1 : qat ws 176 q1) : W p l e room_1 s m #[Value.ref b] below meth c H locs cells slots (lw_Z below #[Value.ref b] s) (F0 m 13 ls []) := by
  obtain ⟨hx, hb, hr, hml, hown, hts0, hX, hbl, hlk2, hgv⟩ := id C0
  obtain ⟨f1, f2, f3, f4, f5, f6, f7⟩ := qw0_f
  refine lv_aload_n hx hb dl_13 rfl (lv_at hl 1 rfl) ?_
  have hU := oUndo hO
  rw [f1, f2] at hU
  obtain ⟨n9, x9, σ9, hev, m9, r9, rfl, rfl, ⟨hO, hm⟩⟩ := hU
  refine lw_callV C0 hAO (B := m_LR_undo) (k0 := 0) (as := []) (As := []) (rest := []) hev Hp h0 trivial hl.1 rfl kd_0 hroom (Nat.le_of_ble_eq_true rfl) dl_14 (lw_ml_at rfl) (Nat.le_of_ble_eq_true rfl) rfl (Nat.le_of_ble_eq_true rfl) rfl rfl ⟨Nat.le_of_ble_eq_true rfl, Nat.le_of_ble_eq_true rfl⟩ (fun ws9 tys9 H9 locs9 x9 Hp => ?_)
  have h0 := x9 _ _ h0
  have h1 := x9 _ _ h1
  refine lv_bipush (v := Int32.ofInt (-2)) hx hb dl_17 (by decide) ?_
  refine lv_icmp_ne (tgt := 66) hx hb dl_19 (by decide) (fun h => absurd rfl h) (fun _ => ?_)
  refine lv_aload_n hx hb dl_22 rfl (lv_at hl 1 rfl) ?_
  have hU := oRead hO
  rw [f3, f4] at hU
  obtain ⟨n9, x9, σ9, hev, m9, r9, rfl, rfl, ⟨hO, hm⟩⟩ := hU
  refine lw_callV C0 hAO (B := m_LR_read) (k0 := 0) (as := []) (As := []) (rest := []) hev Hp h0 trivial hl.1 rfl kd_0 hroom (Nat.le_of_ble_eq_true rfl) dl_23 (lw_ml_at rfl) (Nat.le_of_ble_eq_true rfl) rfl (Nat.le_of_ble_eq_true rfl) rfl rfl ⟨Nat.le_of_ble_eq_true rfl, Nat.le_of_ble_eq_true rfl⟩ (fun ws9 tys9 H9 locs9 x9 Hp => ?_)
  have h0 := x9 _ _ h0
  have h1 := x9 _ _ h1
  refine lv_sipush (v := Int32.ofInt (-1000)) hx hb dl_26 (by decide) ?_
  refine lv_icmp_ne (tgt := 66) hx hb dl_29 (by decide) (fun h => absurd rfl h) (fun _ => ?_)
  refine lv_aload_n hx hb dl_32 rfl (lv_at hl 1 rfl) ?_
  refine lv_bipush (v := Int32.ofInt 7) hx hb dl_33 (by decide) ?_
  have hU := oCount hO (x := 7)
  rw [f5] at hU
  obtain ⟨n9, x9, σ9, hev, m9, r9, rfl, rfl, ⟨hO, hm⟩⟩ := hU
  refine lw_callV C0 hAO (B := m_LR_count) (k0 := 0) (as := [qI 7]) (As := [.int (Int32.ofInt 7)]) (rest := []) hev Hp h0 ⟨⟨rfl, by decide⟩, trivial⟩ hl.1 rfl kd_0 hroom (Nat.le_of_ble_eq_true rfl) dl_35 (lw_ml_at rfl) (Nat.le_of_ble_eq_true rfl) rfl (Nat.le_of_ble_eq_true rfl) rfl rfl ⟨Nat.le_of_ble_eq_true rfl, Nat.le_of_ble_eq_true rfl⟩ (fun ws9 tys9 H9 locs9 x9 Hp => ?_)
  have h0 := x9 _ _ h0
  have h1 := x9 _ _ h1
  refine lv_iconst (v := Int32.ofInt 2) hx hb dl_38 rfl ?_
  refine lv_icmp_ne (tgt := 66) hx hb dl_39 (by decide) (fun h => absurd rfl h) (fun _ => ?_)
  refine lv_aload_n hx hb dl_42 rfl (lv_at hl 1 rfl) ?_
  have hU := oBestBound hO
  rw [f6] at hU
  obtain ⟨n9, x9, σ9, hev, m9, r9, rfl, rfl, ⟨hO, hm⟩⟩ := hU
  refine lw_callV C0 hAO (B := m_LR_bestBound) (k0 := 0) (as := []) (As := []) (rest := []) hev Hp h0 trivial hl.1 rfl kd_0 hroom (Nat.le_of_ble_eq_true rfl) dl_43 (lw_ml_at rfl) (Nat.le_of_ble_eq_true rfl) rfl (Nat.le_of_ble_eq_true rfl) rfl rfl ⟨Nat.le_of_ble_eq_true rfl, Nat.le_of_ble_eq_true rfl⟩ (fun ws9 tys9 H9 locs9 x9 Hp => ?_)
  have h0 := x9 _ _ h0
  have h1 := x9 _ _ h1
  refine lv_iconst (v := Int32.ofInt 1) hx hb dl_46 rfl ?_
  refine lv_icmp_ne (tgt := 66) hx hb dl_47 (by decide) (fun h => absurd rfl h) (fun _ => ?_)
  refine lv_aload_n hx hb dl_50 rfl (lv_at hl 1 rfl) ?_
  refine lv_bipush (v := Int32.ofInt 6) hx hb dl_51 (by decide) ?_
  have hU := oCount hO (x := 6)
  rw [f7] at hU
  obtain ⟨n9, x9, σ9, hev, m9, r9, rfl, rfl, ⟨hO, hm⟩⟩ := hU
  refine lw_callV C0 hAO (B := m_LR_count) (k0 := 0) (as := [qI 6]) (As := [.int (Int32.ofInt 6)]) (rest := []) hev Hp h0 ⟨⟨rfl, by decide⟩, trivial⟩ hl.1 rfl kd_0 hroom (Nat.le_of_ble_eq_true rfl) dl_53 (lw_ml_at rfl) (Nat.le_of_ble_eq_true rfl) rfl (Nat.le_of_ble_eq_true rfl) rfl rfl ⟨Nat.le_of_ble_eq_true rfl, Nat.le_of_ble_eq_true rfl⟩ (fun ws9 tys9 H9 locs9 x9 Hp => ?_)
  have h0 := x9 _ _ h0
  have h1 := x9 _ _ h1
  refine lv_if_ne (tgt := 66) hx hb dl_56 (by decide) (fun h => absurd rfl h) (fun _ => ?_)
  refine lv_aload_n hx hb dl_59 rfl (lv_at hl 1 rfl) ?_
  obtain ⟨n9, x9, σ9, hev, m9, r9, rfl, rfl, hO⟩ := pFails hO
  refine lw_callS C0 hAO (B := m_Lw_fails) (as := [qK 0]) (As := [.ref q0]) (rest := []) hev Hp ⟨⟨q0, h0, rfl⟩, trivial⟩ hl.1 rfl hroom (Nat.le_of_ble_eq_true rfl) dl_60 (lw_ml_at rfl) (Nat.le_of_ble_eq_true rfl) rfl (Nat.le_of_ble_eq_true rfl) rfl rfl ⟨Nat.le_of_ble_eq_true rfl, Nat.le_of_ble_eq_true rfl⟩ (fun ws9 tys9 H9 locs9 x9 Hp => ?_)
  have h0 := x9 _ _ h0
  have h1 := x9 _ _ h1
  refine lv_if_ne (tgt := 68) hx hb dl_63 (by decide) (fun _ => ?_) (fun h => absurd h (by decide))
  refine lv_iconst (v := nI 0) hx hb dl_68 (by decide) ?_
  refine lv_istore_n (lv' := [(3, .int (nI 0)), (0, .ref b), (1, .ref q0), (2, .ref q1)]) hx hb dl_69 rfl hl (by decide) rfl (fun ls2 hl2 => ?_)
  exact lw_loop C0 hAO hL hroom 16 0 _ _ _ _ _ _ _ _ rfl (lv_sub hl2 [1, 2, 3, 0] rfl) hO Hp h0 h1
theorem qrun1_call : qev 6000 m_LR_init 0 (qent m_LR_init (qK 0 :: [])) [] qs0 = some (none, qs1) := by
  rw [show qent m_LR_init (qK 0 :: []) = [qK 0] from rfl]
  exact qrun1_some
theorem qs0_new : qold (([] : List (Nat × Nat)), (fun _ _ => 0), (fun _ _ => none)) (0, 7) = qs0 := by
  refine Prod.ext rfl (Prod.ext ?_ ?_)
  · funext a j
    show (if a = 0 then (0 : Int) else 0) = 0
    split <;> rfl
  · funext a j
    show (if a = 0 then (none : Option Nat) else none) = none
    split <;> rfl
theorem qs1_n : qs1.1.length = 176 ∧ qsz qs1.1 ≤ 7302000 := by
  rw [qs1_T]
  decide +kernel
/-- THE LAW, from its entry -/
theorem whole_start {p : Program} {e : Env} {s : State} {m : MethodId} {below : List Frame} {meth : Method} {c : Code} (l : Launch) (hflags : l.flags = flags0) {b L : Nat} {xs : Nat → Int32} (hL : L ≤ 260) (C0 : lw_At p s m meth c b L xs) : W p l e room_1 s m #[Value.ref b] below meth c s.heap [] 0 0 (lw_Z below #[Value.ref b] s) (entryFrame m ([Value.ref b] : List Value).toArray 4) := by
  obtain ⟨hx, hb, hr, hml, hown, hts0, hX, hbl, hlk2, hgv⟩ := id C0
  obtain ⟨D, hK⟩ := lw_K C0
  have hAO := lw_AO C0
  have Hp0 : qHp D (fun q => s.heap.size ≤ q) s [] [] (([] : List (Nat × Nat)), (fun _ _ => 0), (fun _ _ => none)) s.heap [] := ⟨⟨rfl, fun k kd h => by simp at h⟩, fun k q h => by simp at h, hK, ⟨fun i j p q h => by simp at h, fun k q h => by simp at h⟩, va_S.rf⟩
  have hl := lv_entry ([.ref b]) (n := 4) (Nat.le_of_ble_eq_true rfl)
  rw [lg_entry_eq]
  generalize (lg_sl ([.ref b]) ++ List.replicate (4 - (lg_sl ([.ref b])).length) Slot.unset).toArray = ls at hl ⊢
  have hl : lv_has ls 4 [(0, .ref b)] := hl
  refine lw_newK C0 hAO (ci := 7) Hp0 (by decide) lw_cl7 dl_0 ⟨Nat.le_of_ble_eq_true rfl, Nat.le_of_ble_eq_true rfl⟩ (fun ws1 H1 q0 x1 h0 Hp1 => ?_)
  rw [qs0_new] at Hp1
  have h0 : qat ws1 0 q0 := h0
  refine lv_dup hx hb dl_3 rfl ?_
  refine lw_callI C0 hAO (k0 := 0) (as := []) (As := []) (rest := [.ref q0]) qrun1_call Hp1 h0 trivial hl.1 rfl rfl ⟨by rw [qs1_n.1]; exact Nat.le_of_ble_eq_true rfl, Nat.le_trans qs1_n.2 (Nat.le_of_ble_eq_true rfl)⟩ (Nat.le_of_ble_eq_true rfl) dl_4 (lw_ml_at rfl) (Nat.le_of_ble_eq_true rfl) rfl (Nat.le_of_ble_eq_true rfl) rfl rfl ⟨Nat.le_of_ble_eq_true rfl, Nat.le_of_ble_eq_true rfl⟩ (fun ws2 tys2 H2 locs2 cells2 slots2 x2 Hp2 c2 s2 => ?_)
  refine lv_astore_n (lv' := [(1, .ref q0), (0, .ref b)]) hx hb dl_7 rfl hl (by decide) rfl (fun ls2 hl2 => ?_)
  have n1 := qs1_n
  refine lv_bipush (v := 64) hx hb dl_8 (by decide) ?_
  refine lw_newA C0 hAO Hp2 dl_10 ⟨by omega, by omega⟩ (fun ws3 tys3 H3 q1 x3 h1 Hp3 => ?_)
  rw [n1.1] at h1
  refine lv_astore_n (lv' := [(2, .ref q1), (1, .ref q0), (0, .ref b)]) hx hb dl_12 rfl hl2 (by decide) rfl (fun ls3 hl3 => ?_)
  rw [show qold qs1 (1, 64) = (qT0, qm2, qr2) from qs2_eq] at Hp3
  exact lw_first C0 hAO hL ⟨by omega, by omega⟩ (lv_sub hl3 [2, 1, 0] rfl) qOb0 Hp3 (x3 _ _ (x2 _ _ h0)) h1
