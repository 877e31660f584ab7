/-! The law's calls: what the abstract machine does, they do -/
theorem lw_AO {p : Program} {s : State} {m : MethodId} {meth : Method} {c : Code} {b L : Nat} {xs : Nat → Int32} (C0 : lw_At p s m meth c b L xs) : qAO s := by
  obtain ⟨hx, hb, hr, hml, hown, hts0, hX, hbl, hlk2, hgv⟩ := C0
  intro ci hc
  obtain ⟨q, hq, h1⟩ := List.any_eq_true.mp hc
  have h2 := of_decide_eq_true (List.all_eq_true.mp qao_ok q hq)
  rw [eq_of_beq h1] at h2
  exact va_AO.of (hts0 _ (List.mem_of_getElem? h2))
theorem lw_K {p : Program} {s : State} {m : MethodId} {meth : Method} {c : Code} {b L : Nat} {xs : Nat → Int32} (C0 : lw_At p s m meth c b L xs) : ∃ D : va_G, va_K D vwCl [] s := by
  obtain ⟨hx, hb, hr, hml, hown, hts0, hX, hbl, hlk2, hgv⟩ := C0
  have hts : ∀ w ∈ qtb, w.before #[Value.ref b] s = true := fun w hw => hts0 w (List.mem_filter.mp hw).1
  have h1 : ∀ k, k < 8 → ∃ d : ClassId × (Nat → Nat), u_Kn s (qR k) (qT k) (qfs k).length d.1 d.2 := by
    intro k hk
    obtain ⟨cC, iS, h⟩ := u_known (ws := qtb) (C := qR k) (T := qT k) (N := (qfs k).length) hts (qu_all hk) (hts _ ((qcp_at (Nat.lt_succ_of_lt hk)).1 hk))
    exact ⟨(cC, iS), h⟩
  obtain ⟨d0, -⟩ := h1 0 (by decide)
  have h2 : ∀ k, ∃ d : ClassId × (Nat → Nat), k < 8 → u_Kn s (qR k) (qT k) (qfs k).length d.1 d.2 := by
    intro k
    by_cases hk : k < 8
    · obtain ⟨d, hd⟩ := h1 k hk
      exact ⟨d, fun _ => hd⟩
    · exact ⟨d0, fun h => absurd h hk⟩
  obtain ⟨f, hf⟩ := Classical.axiomOfChoice h2
  refine ⟨(fun k => (f k).1, fun k => (f k).2), fun k q hq => ?_, fun k q hq => by simp at hq⟩
  have hk : k < 8 := (List.getElem?_eq_some_iff.mp hq).1
  rw [qvw hk] at hq
  cases hq
  exact hf k hk
theorem lw_callV {p : Program} {l : Launch} {e : Env} {s : State} {m : MethodId} {below : List Frame} {meth : Method} {c : Code} {b L : Nat} {xs : Nat → Int32} (C0 : lw_At p s m meth c b L xs) (hAO : qAO s) {D : va_G} {H : Heap} {locs : List Loc} {cells slots : Nat} {Q : State → Prop} {ws : va_W} {tys : List (ClassId × FieldType)} {B idx k0 q pc n : Nat} {as : List qA} {As rest : List Value} {ls : Array Slot} {y : Int} {σ σ' : qM}
    (hev : qev n B 0 (qent B (qK k0 :: as)) [] σ = some (qI y, σ')) (Hp : qHp D (fun q => s.heap.size ≤ q) s ws tys σ H locs) (hq : qat ws k0 q) (has : qsr ws as As) (hls : ls.size = 4) (hT : σ'.1 = σ.1) (hk : σ.1[k0]? = some (0, qCl B)) (hroom : cells ≤ 600000 ∧ slots ≤ 7302250) (hrest : (rest.map fun v => v.category).sum ≤ 8)
    (hd : decode code pc = .ok (.invokevirtual idx, 3)) (hlk : Cond.methodLink R_law idx (qy B) ∈ qtb) (hB : B < qN) (hki : qKi B = 1) (hnl : as.length + 1 ≤ qNl B) (hna : qNa B = as.length + 1) (hnl0 : qnol (qK k0 :: as) = true) (hfr : (qfr B).1 + 1 ≤ room_1.frames ∧ 8 + (qNl B + 11) + (qfr B).2 ≤ room_1.locals)
    (kk : ∀ (ws' : va_W) (tys' : List (ClassId × FieldType)) (H' : Heap) (locs' : List Loc), qext ws ws' → qHp D (fun q => s.heap.size ≤ q) s ws' tys' σ' H' locs' → W p l e room_1 s m #[Value.ref b] below meth c H' locs' cells slots Q (F0 m (pc + 3) ls (.int (Int32.ofInt y) :: rest))) : W p l e room_1 s m #[Value.ref b] below meth c H locs cells slots Q (F0 m pc ls (As.reverse ++ .ref q :: rest)) := by
  obtain ⟨hx, hb, hr, hml, hown, hts0, hX, hbl, hlk2, hgv⟩ := C0
  have hts : ∀ w ∈ qtb, w.before #[Value.ref b] s = true := fun w hw => hts0 w (List.mem_filter.mp hw).1
  obtain ⟨hh, hP, hK, hD, hSS⟩ := Hp
  have hs : qsr ws (qK k0 :: as) (.ref q :: As) := ⟨⟨q, hq, rfl⟩, has⟩
  have hM := qMet (qsound n) l (D := D) (sz := H.size) hev hB (by rw [List.length_cons]; omega) hnl0 hs hh
  have hfree : ∀ z, va_A ws H.size z → s.heap.size ≤ z := by
    rintro z (⟨j, e0, hj⟩ | h)
    · exact hD.2 j (z, e0) hj
    · exact Nat.le_trans hSS.1 h
  have hmp := List.all_eq_true.mp qmp_ok2 B (List.mem_range.mpr hB)
  rw [hki] at hmp
  have hmp := of_decide_eq_true hmp
  obtain ⟨nn, hnn, hnn2⟩ := Option.map_eq_some_iff.mp hmp.2.2
  have hsl := qsr_len has
  have hAs : As.length = nn.parameters.length := by omega
  have hcw : CallB room_1 s #[Value.ref b] R_law idx (qy B) (qb B) (qNl B) (qret B) (qws B) (qrm B σ σ') (σ'.1.length - σ.1.length) (qsz σ'.1 - qsz σ.1) nn.parameters.length := callB_of _ hts (qws_good hB) rfl rfl rfl (by rw [(qm3 hB).1]; exact hts _ (qcp_at (qm3 hB).2.1).2) (hts _ hlk) ⟨(qm3 hB).2.2.2.2.1, (qm3 hB).2.2.2.2.2.1, by rw [hnn]; rfl⟩ ⟨hfr.1, hfr.2⟩
  have hblind : FrameBlind (qPc D ws tys H.size (.ref q :: As)) := fun a U g mk q => by
    obtain ⟨q0, q1, qP, qK, qD, qO⟩ := q
    exact ⟨q0, q1, qP, va_K.moved (u := U) (U := U.calling g mk a) (Vm.Alike.refl U.vm) qK, qD, qAO_moved (u := U) (U := U.calling g mk a) (Vm.Alike.refl U.vm) qO⟩
  have hPc : ∀ U : State, U.heap = H → s.WarmedH U.vm → qPc D ws tys H.size (.ref q :: As) (Value.ref q :: As).toArray U := fun U hU hW => ⟨rfl, by rw [hU], by rw [hU]; exact hP, va_K.moved hW.alike hK, hD.weaken (fun _ _ _ _ => trivial), qAO_moved hW.alike hAO⟩
  have hc1 : σ'.1.length - σ.1.length = 0 := by rw [hT]; omega
  have hc2 : qsz σ'.1 - qsz σ.1 = 0 := by rw [hT]; omega
  obtain ⟨e0, he, fs, rfl, -⟩ := qhr_at hh hk hq
  have hrecv := va_recv hK hP (qvw (by rcases (qm3 hB).2.2.1 with h9 | h9 <;> omega)) he
  refine qgo (va_runV (As := As) (C := qR (qCl B)) (rest := rest) ⟨hx, hb, hml, hown, hts⟩ hM ⟨hcw, hts _ (qtb_at hmp.1 rfl), hts _ (qtb_at hmp.2.1 rfl)⟩ ⟨hblind, hrecv, hPc⟩ rfl hAs hls rfl (lv_room hrest) hd ⟨by rw [hc1]; exact hroom.1, by rw [hc2]; exact hroom.2⟩) ?_
  intro v st₀ t L1 h0 hL1 hal hq1
  obtain ⟨⟨v', ws', tys', hv, hrr, hext, hh', hP', hK', hD'⟩, hF⟩ := hq1
  cases hv
  obtain ⟨w, hw, rfl⟩ := hrr
  obtain ⟨rfl, hy⟩ := hw
  rw [hc1, hc2]
  refine kk ws' tys' _ _ hext ⟨hh', hP', va_K.moved hal.symm hK', hD'.weaken (fun _ q _ h => hfree q.1 h), ?_⟩
  obtain ⟨hF1, hF2⟩ := hF
  rw [h0] at hF1 hF2
  refine ⟨Nat.le_trans hSS.1 hF1, fun q h1 h2 => ?_, fun q hq => ?_⟩
  · rw [hF2 q (Nat.lt_of_lt_of_le h1 hSS.1) (fun z => h2 (hfree q z))]
    exact hSS.2.1 q h1 h2
  · rcases List.mem_append.mp hq with h | h
    · exact hSS.2.2 q h
    · exact hfree _ (hL1 q h)
theorem lw_callI {p : Program} {l : Launch} {e : Env} {s : State} {m : MethodId} {below : List Frame} {meth : Method} {c : Code} {b L : Nat} {xs : Nat → Int32} (C0 : lw_At p s m meth c b L xs) (hAO : qAO s) {D : va_G} {H : Heap} {locs : List Loc} {cells slots : Nat} {Q : State → Prop} {ws : va_W} {tys : List (ClassId × FieldType)} {B idx k0 q pc n : Nat} {as : List qA} {As rest : List Value} {ls : Array Slot} {σ σ' : qM}
    (hev : qev n B 0 (qent B (qK k0 :: as)) [] σ = some (none, σ')) (Hp : qHp D (fun q => s.heap.size ≤ q) s ws tys σ H locs) (hq : qat ws k0 q) (has : qsr ws as As) (hls : ls.size = 4) (hc1 : cells = σ.1.length) (hc2 : slots = qsz σ.1) (hroom : σ'.1.length ≤ 600000 ∧ qsz σ'.1 ≤ 7302250) (hrest : (rest.map fun v => v.category).sum ≤ 8)
    (hd : decode code pc = .ok (.invokespecial idx, 3)) (hlk : Cond.methodLink R_law idx (qy B) ∈ qtb) (hB : B < qN) (hki : qKi B = 2) (hnl : as.length + 1 ≤ qNl B) (hna : qNa B = as.length + 1) (hnl0 : qnol (qK k0 :: as) = true) (hfr : (qfr B).1 + 1 ≤ room_1.frames ∧ 8 + (qNl B + 11) + (qfr B).2 ≤ room_1.locals)
    (kk : ∀ (ws' : va_W) (tys' : List (ClassId × FieldType)) (H' : Heap) (locs' : List Loc) (cells' slots' : Nat), qext ws ws' → qHp D (fun q => s.heap.size ≤ q) s ws' tys' σ' H' locs' → cells' = σ'.1.length → slots' = qsz σ'.1 → W p l e room_1 s m #[Value.ref b] below meth c H' locs' cells' slots' Q (F0 m (pc + 3) ls rest)) : W p l e room_1 s m #[Value.ref b] below meth c H locs cells slots Q (F0 m pc ls (As.reverse ++ .ref q :: rest)) := by
  obtain ⟨hx, hb, hr, hml, hown, hts0, hX, hbl, hlk2, hgv⟩ := C0
  have hts : ∀ w ∈ qtb, w.before #[Value.ref b] s = true := fun w hw => hts0 w (List.mem_filter.mp hw).1
  obtain ⟨hh, hP, hK, hD, hSS⟩ := Hp
  have hs : qsr ws (qK k0 :: as) (.ref q :: As) := ⟨⟨q, hq, rfl⟩, has⟩
  have hM := qMet (qsound n) l (D := D) (sz := H.size) hev hB (by rw [List.length_cons]; omega) hnl0 hs hh
  have hfree : ∀ z, va_A ws H.size z → s.heap.size ≤ z := by
    rintro z (⟨j, e0, hj⟩ | h)
    · exact hD.2 j (z, e0) hj
    · exact Nat.le_trans hSS.1 h
  have hmp := List.all_eq_true.mp qmp_ok2 B (List.mem_range.mpr hB)
  rw [hki] at hmp
  have hmp := of_decide_eq_true hmp
  obtain ⟨nn, hnn, hnn2⟩ := Option.map_eq_some_iff.mp hmp.2.2.2
  have hsl := qsr_len has
  have hAs : As.length = nn.parameters.length := by omega
  have hcw : CallB room_1 s #[Value.ref b] R_law idx (qy B) (qb B) (qNl B) (qret B) (qws B) (qrm B σ σ') (σ'.1.length - σ.1.length) (qsz σ'.1 - qsz σ.1) nn.parameters.length := callB_of _ hts (qws_good hB) rfl rfl rfl (by rw [(qm3 hB).1]; exact hts _ (qcp_at (qm3 hB).2.1).2) (hts _ hlk) ⟨(qm3 hB).2.2.2.2.1, (qm3 hB).2.2.2.2.2.1, by rw [hnn]; rfl⟩ ⟨hfr.1, hfr.2⟩
  have hblind : FrameBlind (qPc D ws tys H.size (.ref q :: As)) := fun a U g mk q => by
    obtain ⟨q0, q1, qP, qK, qD, qO⟩ := q
    exact ⟨q0, q1, qP, va_K.moved (u := U) (U := U.calling g mk a) (Vm.Alike.refl U.vm) qK, qD, qAO_moved (u := U) (U := U.calling g mk a) (Vm.Alike.refl U.vm) qO⟩
  have hPc : ∀ U : State, U.heap = H → s.WarmedH U.vm → qPc D ws tys H.size (.ref q :: As) (Value.ref q :: As).toArray U := fun U hU hW => ⟨rfl, by rw [hU], by rw [hU]; exact hP, va_K.moved hW.alike hK, hD.weaken (fun _ _ _ _ => trivial), qAO_moved hW.alike hAO⟩
  obtain ⟨X, hX⟩ := qev_pre _ _ _ _ _ _ _ _ hev
  have hzX := qsz_app σ.1 X
  have hlX : σ'.1.length = σ.1.length + X.length := by rw [hX, List.length_append]
  rw [← hX] at hzX
  rw [hmp.2.2.1] at hcw
  refine qgo (va_runI (As := As) (rest := rest) ⟨hx, hb, hml, hown, hts⟩ hM ⟨hcw, hmp.2.1, hts _ (qtb_at hmp.1 rfl)⟩ ⟨hblind, hPc⟩ rfl hAs hls rfl (lv_room hrest) hd ⟨by show cells + (σ'.1.length - σ.1.length) ≤ 600000; omega, by show slots + (qsz σ'.1 - qsz σ.1) ≤ 7302250; omega⟩) ?_
  intro v st₀ t L1 h0 hL1 hal hq1
  obtain ⟨⟨v', ws', tys', hv, hrr, hext, hh', hP', hK', hD'⟩, hF⟩ := hq1
  cases hv
  have hrr : v = none := hrr
  subst hrr
  refine kk ws' tys' _ _ _ _ hext ⟨hh', hP', va_K.moved hal.symm hK', hD'.weaken (fun _ q _ h => hfree q.1 h), ?_⟩ (by omega) (by omega)
  obtain ⟨hF1, hF2⟩ := hF
  rw [h0] at hF1 hF2
  refine ⟨Nat.le_trans hSS.1 hF1, fun q h1 h2 => ?_, fun q hq => ?_⟩
  · rw [hF2 q (Nat.lt_of_lt_of_le h1 hSS.1) (fun z => h2 (hfree q z))]
    exact hSS.2.1 q h1 h2
  · rcases List.mem_append.mp hq with h | h
    · exact hSS.2.2 q h
    · exact hfree _ (hL1 q h)
theorem lw_newK {p : Program} {l : Launch} {e : Env} {s : State} {m : MethodId} {below : List Frame} {meth : Method} {c : Code} {b L : Nat} {xs : Nat → Int32} (C0 : lw_At p s m meth c b L xs) (hAO : qAO s) {D : va_G} {H : Heap} {locs : List Loc} {cells slots : Nat} {Q : State → Prop} {ws : va_W} {tys : List (ClassId × FieldType)} {ci idx pc : Nat} {rest : List Value} {ls : Array Slot} {σ : qM} (Hp : qHp D (fun q => s.heap.size ≤ q) s ws tys σ H locs) (hci : ci < 8) (hcl : Cond.classLink R_law idx (qR ci) ∈ qtb) (hd : decode code pc = .ok (.new idx, 3)) (hroom : cells + 1 ≤ 600000 ∧ slots + (qfs ci).length ≤ 7302250)
    (kk : ∀ (ws' : va_W) (H' : Heap) (q : Nat), qext ws ws' → qat ws' σ.1.length q → qHp D (fun q => s.heap.size ≤ q) s ws' tys (qold σ (0, ci)) H' locs → W p l e room_1 s m #[Value.ref b] below meth c H' locs (cells + 1) (slots + (qfs ci).length) Q (F0 m (pc + 3) ls (.ref q :: rest))) : W p l e room_1 s m #[Value.ref b] below meth c H locs cells slots Q (F0 m pc ls rest) := by
  obtain ⟨hx, hb, hr, hml, hown, hts0, hX, hbl, hlk2, hgv⟩ := C0
  have hts : ∀ w ∈ qtb, w.before #[Value.ref b] s = true := fun w hw => hts0 w (List.mem_filter.mp hw).1
  obtain ⟨hh, hP, hK, hD, hSS⟩ := Hp
  have hat : ∀ (q : Nat) (e : va_E), qat (ws ++ [(q, e)]) σ.1.length q := fun q e => ⟨e, by rw [← hh.1]; simp⟩
  have hfs : ∀ j, j < (qfs ci).length → defaultValue (qty ci j) = vp_V ((qfs ci).map (fun t => if t = true then Value.null else .int 0)) j := by
    intro j hj
    cases ht : (qfs ci)[j]? with
    | none => exact absurd (List.getElem?_eq_none_iff.mp ht) (by omega)
    | some t =>
      have hv : vp_V ((qfs ci).map (fun t => if t = true then Value.null else .int 0)) j = if t = true then Value.null else .int 0 := by
        unfold vp_V
        rw [List.getD_eq_getElem?_getD, List.getElem?_map, ht]
        rfl
      rw [hv]
      cases t with
      | false => rw [qty_int ht]; rfl
      | true => rcases qty_ref ht with ⟨n, h⟩ | ⟨n, h⟩ <;> rw [h] <;> rfl
  refine va_new (ci := ci) (fs := (qfs ci).map (fun t => if t = true then Value.null else .int 0)) hx hb hts (qu_all hci) (qty ci) (qty_all hci) hown (hts _ hcl) (hts _ ((qcp_at (Nat.lt_succ_of_lt hci)).1 hci)) (hts _ (qcp_at (Nat.lt_succ_of_lt hci)).2) hK hP hD hSS (fun _ h => h) (qvw hci) hfs hroom.1 hroom.2 hd (fun q H1 hP1 hD1 hS1 => ?_)
  refine kk _ H1 q qext_app (hat _ _) ⟨qhr_new hh (fun x hx => hx) ?_, hP1, hK, hD1, hS1⟩
  refine ⟨_, rfl, by simp, fun j hj => ?_, fun j hj => ?_⟩
  · rw [List.getElem?_map, hj]
    exact ⟨rfl, q0in⟩
  · rw [List.getElem?_map, hj]
    exact ⟨none, rfl, rfl⟩
theorem lw_callS {p : Program} {l : Launch} {e : Env} {s : State} {m : MethodId} {below : List Frame} {meth : Method} {c : Code} {b L : Nat} {xs : Nat → Int32} (C0 : lw_At p s m meth c b L xs) (hAO : qAO s) {D : va_G} {H : Heap} {locs : List Loc} {cells slots : Nat} {Q : State → Prop} {ws : va_W} {tys : List (ClassId × FieldType)} {B idx pc n : Nat} {as : List qA} {As rest : List Value} {ls : Array Slot} {y : Int} {σ σ' : qM}
    (hev : qev n B 0 (qent B as) [] σ = some (qI y, σ')) (Hp : qHp D (fun q => s.heap.size ≤ q) s ws tys σ H locs) (has : qsr ws as As) (hls : ls.size = 4) (hT : σ'.1 = σ.1) (hroom : cells ≤ 600000 ∧ slots ≤ 7302250) (hrest : (rest.map fun v => v.category).sum ≤ 8)
    (hd : decode code pc = .ok (.invokestatic idx, 3)) (hlk : Cond.methodLink R_law idx (qy B) ∈ qtb) (hB : B < qN) (hki : qKi B = 0) (hnl : as.length ≤ qNl B) (hna : qNa B = as.length) (hnl0 : qnol as = true) (hfr : (qfr B).1 + 1 ≤ room_1.frames ∧ 8 + (qNl B + 11) + (qfr B).2 ≤ room_1.locals)
    (kk : ∀ (ws' : va_W) (tys' : List (ClassId × FieldType)) (H' : Heap) (locs' : List Loc), qext ws ws' → qHp D (fun q => s.heap.size ≤ q) s ws' tys' σ' H' locs' → W p l e room_1 s m #[Value.ref b] below meth c H' locs' cells slots Q (F0 m (pc + 3) ls (.int (Int32.ofInt y) :: rest))) : W p l e room_1 s m #[Value.ref b] below meth c H locs cells slots Q (F0 m pc ls (As.reverse ++ rest)) := by
  obtain ⟨hx, hb, hr, hml, hown, hts0, hX, hbl, hlk2, hgv⟩ := C0
  have hts : ∀ w ∈ qtb, w.before #[Value.ref b] s = true := fun w hw => hts0 w (List.mem_filter.mp hw).1
  obtain ⟨hh, hP, hK, hD, hSS⟩ := Hp
  have hs : qsr ws as As := has
  have hM := qMet (qsound n) l (D := D) (sz := H.size) hev hB (by omega) hnl0 hs hh
  have hfree : ∀ z, va_A ws H.size z → s.heap.size ≤ z := by
    rintro z (⟨j, e0, hj⟩ | h)
    · exact hD.2 j (z, e0) hj
    · exact Nat.le_trans hSS.1 h
  have hmp := List.all_eq_true.mp qmp_ok2 B (List.mem_range.mpr hB)
  rw [hki] at hmp
  have hmp := of_decide_eq_true hmp
  obtain ⟨nn, hnn, hnn2⟩ := Option.map_eq_some_iff.mp hmp.2
  have hsl := qsr_len has
  have hAs : As.length = nn.parameters.length := by omega
  have hcw : CallB room_1 s #[Value.ref b] R_law idx (qy B) (qb B) (qNl B) (qret B) (qws B) (qrm B σ σ') (σ'.1.length - σ.1.length) (qsz σ'.1 - qsz σ.1) nn.parameters.length := callB_of _ hts (qws_good hB) rfl rfl rfl (by rw [(qm3 hB).1]; exact hts _ (qcp_at (qm3 hB).2.1).2) (hts _ hlk) ⟨(qm3 hB).2.2.2.2.1, (qm3 hB).2.2.2.2.2.1, by rw [hnn]; rfl⟩ ⟨hfr.1, hfr.2⟩
  have hblind : FrameBlind (qPc D ws tys H.size As) := fun a U g mk q => by
    obtain ⟨q0, q1, qP, qK, qD, qO⟩ := q
    exact ⟨q0, q1, qP, va_K.moved (u := U) (U := U.calling g mk a) (Vm.Alike.refl U.vm) qK, qD, qAO_moved (u := U) (U := U.calling g mk a) (Vm.Alike.refl U.vm) qO⟩
  have hPc : ∀ U : State, U.heap = H → s.WarmedH U.vm → qPc D ws tys H.size As As.toArray U := fun U hU hW => ⟨rfl, by rw [hU], by rw [hU]; exact hP, va_K.moved hW.alike hK, hD.weaken (fun _ _ _ _ => trivial), qAO_moved hW.alike hAO⟩
  have hc1 : σ'.1.length - σ.1.length = 0 := by rw [hT]; omega
  have hc2 : qsz σ'.1 - qsz σ.1 = 0 := by rw [hT]; omega
  refine qgo (va_runS (As := As) (rest := rest) ⟨hx, hb, hml, hown, hts⟩ hM ⟨hcw, hts _ (qtb_at hmp.1 rfl)⟩ ⟨hblind, hPc⟩ rfl hAs hls rfl (lv_room hrest) hd ⟨by rw [hc1]; exact hroom.1, by rw [hc2]; exact hroom.2⟩) ?_
  intro v st₀ t L1 h0 hL1 hal hq1
  obtain ⟨⟨v', ws', tys', hv, hrr, hext, hh', hP', hK', hD'⟩, hF⟩ := hq1
  cases hv
  obtain ⟨w, hw, rfl⟩ := hrr
  obtain ⟨rfl, hy⟩ := hw
  rw [hc1, hc2]
  refine kk ws' tys' _ _ hext ⟨hh', hP', va_K.moved hal.symm hK', hD'.weaken (fun _ q _ h => hfree q.1 h), ?_⟩
  obtain ⟨hF1, hF2⟩ := hF
  rw [h0] at hF1 hF2
  refine ⟨Nat.le_trans hSS.1 hF1, fun q h1 h2 => ?_, fun q hq => ?_⟩
  · rw [hF2 q (Nat.lt_of_lt_of_le h1 hSS.1) (fun z => h2 (hfree q z))]
    exact hSS.2.1 q h1 h2
  · rcases List.mem_append.mp hq with h | h
    · exact hSS.2.2 q h
    · exact hfree _ (hL1 q h)
theorem lw_callC {p : Program} {l : Launch} {e : Env} {s : State} {m : MethodId} {below : List Frame} {meth : Method} {c : Code} {b L : Nat} {xs : Nat → Int32} (C0 : lw_At p s m meth c b L xs) (hAO : qAO s) {D : va_G} {H : Heap} {locs : List Loc} {cells slots : Nat} {Q : State → Prop} {ws : va_W} {tys : List (ClassId × FieldType)} {pc k : Nat} {rest : List Value} {ls : Array Slot} {σ : qM} (hL : L ≤ 260) (hk : k ≤ 300) (Hp : qHp D (fun q => s.heap.size ≤ q) s ws tys σ H locs) (hls : ls.size = 4) (hroom : cells ≤ 600000 ∧ slots ≤ 7302250) (hrest : (rest.map fun v => v.category).sum ≤ 8)
    (hd : decode code pc = .ok (.invokestatic 115, 3))
    (kk : ∀ (v : Int32) (locs' : List Loc), qHp D (fun q => s.heap.size ≤ q) s ws tys σ H locs' → W p l e room_1 s m #[Value.ref b] below meth c H locs' cells slots Q (F0 m (pc + 3) ls (.int v :: rest))) : W p l e room_1 s m #[Value.ref b] below meth c H locs cells slots Q (F0 m pc ls (.int (nI k) :: .ref b :: rest)) := by
  obtain ⟨hx, hb, hr, hml, hown, hts0, hX, hbl, hlk2, hgv⟩ := C0
  have hts : ∀ w ∈ qtb, w.before #[Value.ref b] s = true := fun w hw => hts0 w (List.mem_filter.mp hw).1
  obtain ⟨hh, hP, hK, hD, hSS⟩ := Hp
  have hbA : ¬ (fun q : Nat => s.heap.size ≤ q) b := Nat.not_le.mpr hbl
  have hM := lw_cell l (b := b) (L := L) (xs := xs) (k := k) hL hk
  have hcw : CallB room_1 s #[Value.ref b] R_law 115 yL_cell cL_cell 2 (some .int) lw_wsc { frames := 0, cells := 0, slots := 0, locals := 0 } 0 0 2 := callB_of _ hts lw_wsc_good rfl rfl rfl (hts _ (qtb_at lw_cw.2.2.2.2 rfl)) (hts _ (qtb_at lw_cw.2.2.2.1 rfl)) ⟨by decide +kernel, by decide +kernel, by decide +kernel⟩ ⟨Nat.le_of_ble_eq_true rfl, Nat.le_of_ble_eq_true rfl⟩
  have hblind : FrameBlind (lw_PcC b L xs k) := fun a U g mk q => by
    obtain ⟨q0, q1, q2⟩ := q
    exact ⟨q0, va_X.moved (u := U) (U := U.calling g mk a) (Vm.Alike.refl U.vm) q1, q2⟩
  have hPc : ∀ U : State, U.heap = H → s.WarmedH U.vm → lw_PcC b L xs k ([Value.ref b, Value.int (nI k)] : List Value).toArray U := fun U hU hW => ⟨rfl, by rw [hU]; exact (va_X.kept hX (hSS.2.1 b hbl hbA)).moved hW.alike, by rw [hU]; exact Nat.lt_of_lt_of_le hbl hSS.1⟩
  refine qgo (va_runS (As := [Value.ref b, Value.int (nI k)]) (rest := rest) ⟨hx, hb, hml, hown, hts⟩ hM ⟨hcw, hts _ (qtb_at lw_cw.2.1 rfl)⟩ ⟨hblind, hPc⟩ rfl rfl hls rfl (lv_room hrest) hd hroom) ?_
  intro v st₀ t L1 h0 hL1 hal hq1
  obtain ⟨⟨v', hv⟩, hF⟩ := hq1
  cases hv
  rw [hF, h0]
  refine kk v' _ ⟨hh, hP, hK, hD, hSS.1, hSS.2.1, fun q hq => ?_⟩
  rcases List.mem_append.mp hq with h | h
  · exact hSS.2.2 q h
  · exact absurd (hL1 q h) id
theorem lw_newA {p : Program} {l : Launch} {e : Env} {s : State} {m : MethodId} {below : List Frame} {meth : Method} {c : Code} {b L : Nat} {xs : Nat → Int32} (C0 : lw_At p s m meth c b L xs) (hAO : qAO s) {D : va_G} {H : Heap} {locs : List Loc} {cells slots : Nat} {Q : State → Prop} {ws : va_W} {tys : List (ClassId × FieldType)} {pc : Nat} {rest : List Value} {ls : Array Slot} {σ : qM} (Hp : qHp D (fun q => s.heap.size ≤ q) s ws tys σ H locs) (hd : decode code pc = .ok (.newarray .int, 2)) (hroom : cells + 1 ≤ 600000 ∧ slots + 64 ≤ 7302250)
    (kk : ∀ (ws' : va_W) (tys' : List (ClassId × FieldType)) (H' : Heap) (q : Nat), qext ws ws' → qat ws' σ.1.length q → qHp D (fun q => s.heap.size ≤ q) s ws' tys' (qold σ (1, 64)) H' locs → W p l e room_1 s m #[Value.ref b] below meth c H' locs (cells + 1) (slots + 64) Q (F0 m (pc + 2) ls (.ref q :: rest))) : W p l e room_1 s m #[Value.ref b] below meth c H locs cells slots Q (F0 m pc ls (.int 64 :: rest)) := by
  obtain ⟨hx, hb, hr, hml, hown, hts0, hX, hbl, hlk2, hgv⟩ := C0
  have hts : ∀ w ∈ qtb, w.before #[Value.ref b] s = true := fun w hw => hts0 w (List.mem_filter.mp hw).1
  obtain ⟨hh, hP, hK, hD, hSS⟩ := Hp
  have hat : ∀ (q : Nat) (e : va_E), qat (ws ++ [(q, e)]) σ.1.length q := fun q e => ⟨e, by rw [← hh.1]; simp⟩
  refine va_newa (atype := .int) hx hb (hts _ (qtb_at qw_arr rfl)) rfl hK hP hD hSS (fun _ h => h) (a0 := (64, .inl (fun _ => 0))) (fun cA => rfl) (by decide) (N' := 64) (by decide) (by decide) hroom.1 hroom.2 hd (fun q cA H1 hK1 hP1 hD1 hS1 => ?_)
  refine kk _ _ H1 q qext_app (hat _ _) ⟨qhr_new hh (fun x hx => List.mem_append_left _ hx) ?_, hP1, hK1, hD1, hS1⟩
  exact ⟨cA, _, rfl, List.mem_append_right _ (List.mem_singleton.mpr rfl), by omega, fun j hj => ⟨rfl, q0in⟩⟩
