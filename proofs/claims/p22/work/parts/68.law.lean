/-! The law: the words of the claim, its rows of code, its links -/
def R_law : String := "LikeRecordsLaw"
def lw_P (b : Addr) (xs : List Int32) (args : Array Value) (s : State) : Prop := args = #[.ref b] ∧ s.IntsAt b xs ∧ xs.length ≤ 260 ∧ (Jvm.Cond.and given_1 narrow_1).before args s = true
def lw_Q (_ : Array Value) (s : State) (o : Outcome) (t : State) : Prop := o = .returned (some (.int 1)) ∧ Framed s o t [] 600000 7302250
def lw_Z (below : List Frame) (a : Array Value) (s : State) : State → Prop := fun t => ∃ o, t.status = .running ∧ Ended t below o ∧ lw_Q a s o t
/-- the law's own end, with 1 on the stack, nothing written that was there before, its room as the claim has it -/
theorem lw_ret {p : Program} {l : Launch} {e : Env} {s : State} {m : MethodId} {below : List Frame} {meth : Method} {c : Code} {b : Nat} (hx : p.tables.exec = Jvm.exec) (hb : c.code = code) (hr : meth.sig.returnType = ret) (hlocks : meth.locks = false) {pc : Nat} {H : Heap} {ls : Array Slot} (hdg : decode code pc = .ok (.ireturn, 1)) : W p l e room_1 s m #[Value.ref b] below meth c H [] 600000 7302250 (lw_Z below #[Value.ref b] s) (F0 m pc ls [.int 1]) := by
  intro T hT X
  obtain ⟨fs, hret, hrun, hended, hW, hframe⟩ := X.leave (v := some (.int 1)) (hlocks := hlocks) (fun h => by rw [hr] at h; cases h)
  have hmeth' : T.vm.method? m = some meth := X.method'
  refine ⟨T.setFrames fs, ?_, .returned (some (.int 1)), hrun, hended, rfl, ⟨_, rfl⟩, hW, hframe⟩
  jvm_step X.here [X.here.top, hx, hb, hdg, hmeth', hr, ret, narrow_b1]
  (try refine ⟨rfl, ?_⟩); (try refine ⟨rfl, ?_⟩)
  first | (intro acts; rw [hret _ acts rfl rfl rfl]) | rw [hret _ _ rfl rfl rfl]
  exact Steps.refl _
/-- what holds at the law's entry: the machine, the code, the tables' words (any of lw_tbl by 'hts w (by decide +kernel)'), the script of L ints xs at the cell b, what the Statement gives of the start (any of its parts by flat_of_before) -/
def lw_At (p : Program) (s : State) (m : MethodId) (meth : Method) (c : Code) (b L : Nat) (xs : Nat → Int32) : Prop :=
  p.tables.exec = Jvm.exec ∧ c.code = code ∧ meth.sig.returnType = ret ∧ c.maxLocals = 4 ∧ s.vm.findClass R_law = some m.cls ∧ (∀ w ∈ lw_tbl, w.before #[Value.ref b] s = true) ∧ va_X b L xs s s.heap ∧ b < s.heap.size ∧ meth.locks = false ∧ (Jvm.Cond.and given_1 narrow_1).before #[Value.ref b] s = true
theorem dl_0 : decode code 0 = .ok (.new 14, 3) := by decide +kernel
theorem dl_3 : decode code 3 = .ok (.dup, 1) := by decide +kernel
theorem dl_4 : decode code 4 = .ok (.invokespecial 111, 3) := by decide +kernel
theorem dl_7 : decode code 7 = .ok (.astore_n 1, 1) := by decide +kernel
theorem dl_8 : decode code 8 = .ok (.bipush 64, 2) := by decide +kernel
theorem dl_10 : decode code 10 = .ok (.newarray .int, 2) := by decide +kernel
theorem dl_12 : decode code 12 = .ok (.astore_n 2, 1) := by decide +kernel
theorem dl_13 : decode code 13 = .ok (.aload_n 1, 1) := by decide +kernel
theorem dl_14 : decode code 14 = .ok (.invokevirtual 104, 3) := by decide +kernel
theorem dl_17 : decode code 17 = .ok (.bipush (-2), 2) := by decide +kernel
theorem dl_19 : decode code 19 = .ok (.if_icmp .ne 47, 3) := by decide +kernel
theorem dl_22 : decode code 22 = .ok (.aload_n 1, 1) := by decide +kernel
theorem dl_23 : decode code 23 = .ok (.invokevirtual 101, 3) := by decide +kernel
theorem dl_26 : decode code 26 = .ok (.sipush (-1000), 3) := by decide +kernel
theorem dl_29 : decode code 29 = .ok (.if_icmp .ne 37, 3) := by decide +kernel
theorem dl_32 : decode code 32 = .ok (.aload_n 1, 1) := by decide +kernel
theorem dl_33 : decode code 33 = .ok (.bipush 7, 2) := by decide +kernel
theorem dl_35 : decode code 35 = .ok (.invokevirtual 13, 3) := by decide +kernel
theorem dl_38 : decode code 38 = .ok (.iconst 2, 1) := by decide +kernel
theorem dl_39 : decode code 39 = .ok (.if_icmp .ne 27, 3) := by decide +kernel
theorem dl_42 : decode code 42 = .ok (.aload_n 1, 1) := by decide +kernel
theorem dl_43 : decode code 43 = .ok (.invokevirtual 85, 3) := by decide +kernel
theorem dl_46 : decode code 46 = .ok (.iconst 1, 1) := by decide +kernel
theorem dl_47 : decode code 47 = .ok (.if_icmp .ne 19, 3) := by decide +kernel
theorem dl_50 : decode code 50 = .ok (.aload_n 1, 1) := by decide +kernel
theorem dl_51 : decode code 51 = .ok (.bipush 6, 2) := by decide +kernel
theorem dl_53 : decode code 53 = .ok (.invokevirtual 13, 3) := by decide +kernel
theorem dl_56 : decode code 56 = .ok (.ifCond .ne 10, 3) := by decide +kernel
theorem dl_59 : decode code 59 = .ok (.aload_n 1, 1) := by decide +kernel
theorem dl_60 : decode code 60 = .ok (.invokestatic 112, 3) := by decide +kernel
theorem dl_63 : decode code 63 = .ok (.ifCond .ne 5, 3) := by decide +kernel
theorem dl_66 : decode code 66 = .ok (.iconst 0, 1) := by decide +kernel
theorem dl_67 : decode code 67 = .ok (.ireturn, 1) := by decide +kernel
theorem dl_68 : decode code 68 = .ok (.iconst 0, 1) := by decide +kernel
theorem dl_69 : decode code 69 = .ok (.istore_n 3, 1) := by decide +kernel
theorem dl_70 : decode code 70 = .ok (.iload_n 3, 1) := by decide +kernel
theorem dl_71 : decode code 71 = .ok (.bipush 16, 2) := by decide +kernel
theorem dl_73 : decode code 73 = .ok (.if_icmp .ge 24, 3) := by decide +kernel
theorem dl_76 : decode code 76 = .ok (.aload_n 1, 1) := by decide +kernel
theorem dl_77 : decode code 77 = .ok (.aload_n 0, 1) := by decide +kernel
theorem dl_78 : decode code 78 = .ok (.iload_n 3, 1) := by decide +kernel
theorem dl_79 : decode code 79 = .ok (.invokestatic 115, 3) := by decide +kernel
theorem dl_82 : decode code 82 = .ok (.aload_n 2, 1) := by decide +kernel
theorem dl_83 : decode code 83 = .ok (.invokestatic 119, 3) := by decide +kernel
theorem dl_86 : decode code 86 = .ok (.ifCond .ne 5, 3) := by decide +kernel
theorem dl_89 : decode code 89 = .ok (.iconst 0, 1) := by decide +kernel
theorem dl_90 : decode code 90 = .ok (.ireturn, 1) := by decide +kernel
theorem dl_91 : decode code 91 = .ok (.iinc 3 1, 3) := by decide +kernel
theorem dl_94 : decode code 94 = .ok (.goto (-24), 3) := by decide +kernel
theorem dl_97 : decode code 97 = .ok (.aload_n 1, 1) := by decide +kernel
theorem dl_98 : decode code 98 = .ok (.iconst 1, 1) := by decide +kernel
theorem dl_99 : decode code 99 = .ok (.invokevirtual 13, 3) := by decide +kernel
theorem dl_102 : decode code 102 = .ok (.istore_n 3, 1) := by decide +kernel
theorem dl_103 : decode code 103 = .ok (.aload_n 1, 1) := by decide +kernel
theorem dl_104 : decode code 104 = .ok (.invokestatic 123, 3) := by decide +kernel
theorem dl_107 : decode code 107 = .ok (.ifCond .eq 35, 3) := by decide +kernel
theorem dl_110 : decode code 110 = .ok (.iload_n 3, 1) := by decide +kernel
theorem dl_111 : decode code 111 = .ok (.ifCond .eq 20, 3) := by decide +kernel
theorem dl_114 : decode code 114 = .ok (.aload_n 1, 1) := by decide +kernel
theorem dl_115 : decode code 115 = .ok (.aload_n 0, 1) := by decide +kernel
theorem dl_116 : decode code 116 = .ok (.bipush 16, 2) := by decide +kernel
theorem dl_118 : decode code 118 = .ok (.invokestatic 115, 3) := by decide +kernel
theorem dl_121 : decode code 121 = .ok (.iload_n 3, 1) := by decide +kernel
theorem dl_122 : decode code 122 = .ok (.invokestatic 78, 3) := by decide +kernel
theorem dl_125 : decode code 125 = .ok (.invokestatic 126, 3) := by decide +kernel
theorem dl_128 : decode code 128 = .ok (.ifCond .eq 14, 3) := by decide +kernel
theorem dl_131 : decode code 131 = .ok (.aload_n 1, 1) := by decide +kernel
theorem dl_132 : decode code 132 = .ok (.invokestatic 112, 3) := by decide +kernel
theorem dl_135 : decode code 135 = .ok (.ifCond .eq 7, 3) := by decide +kernel
theorem dl_138 : decode code 138 = .ok (.iconst 1, 1) := by decide +kernel
theorem dl_139 : decode code 139 = .ok (.goto 4, 3) := by decide +kernel
theorem dl_142 : decode code 142 = .ok (.iconst 0, 1) := by decide +kernel
theorem dl_143 : decode code 143 = .ok (.ireturn, 1) := by decide +kernel
theorem dc_0 : decode cL_cell 0 = .ok (.iload_n 1, 1) := by decide +kernel
theorem dc_1 : decode cL_cell 1 = .ok (.aload_n 0, 1) := by decide +kernel
theorem dc_2 : decode cL_cell 2 = .ok (.arraylength, 1) := by decide +kernel
theorem dc_3 : decode cL_cell 3 = .ok (.if_icmp .ge 9, 3) := by decide +kernel
theorem dc_6 : decode cL_cell 6 = .ok (.aload_n 0, 1) := by decide +kernel
theorem dc_7 : decode cL_cell 7 = .ok (.iload_n 1, 1) := by decide +kernel
theorem dc_8 : decode cL_cell 8 = .ok (.iaload, 1) := by decide +kernel
theorem dc_9 : decode cL_cell 9 = .ok (.goto 9, 3) := by decide +kernel
theorem dc_12 : decode cL_cell 12 = .ok (.ldc 7, 2) := by decide +kernel
theorem dc_14 : decode cL_cell 14 = .ok (.iload_n 1, 1) := by decide +kernel
theorem dc_15 : decode cL_cell 15 = .ok (.iconst 3, 1) := by decide +kernel
theorem dc_16 : decode cL_cell 16 = .ok (.iadd, 1) := by decide +kernel
theorem dc_17 : decode cL_cell 17 = .ok (.imul, 1) := by decide +kernel
theorem dc_18 : decode cL_cell 18 = .ok (.ireturn, 1) := by decide +kernel
def lw_ml : List (Nat × Nat × Nat) := [(13, 71, 402), (78, 102, 452), (85, 80, 444), (101, 65, 213), (104, 70, 390), (111, 62, 41), (112, 104, 456), (119, 114, 655), (123, 112, 630), (126, 113, 648)]
theorem lw_ml_ok : lw_ml.all (fun q => decide (lw_tbl[q.2.2]? = some (Cond.methodLink R_law q.1 (qy q.2.1)))) = true := by decide +kernel
theorem lw_ml_at {i b : Nat} (h : lw_ml.any (fun q => q.1 == i && q.2.1 == b) = true) : Cond.methodLink R_law i (qy b) ∈ qtb := by
  obtain ⟨q, hq, h1⟩ := List.any_eq_true.mp h
  have h2 := List.all_eq_true.mp lw_ml_ok q hq
  simp only [Bool.and_eq_true, beq_iff_eq] at h1
  rw [h1.1, h1.2] at h2
  exact qtb_at (of_decide_eq_true h2) rfl
theorem lw_cl7 : Cond.classLink R_law 14 (qR 7) ∈ qtb := qtb_at (i := 39) (by decide +kernel) rfl
theorem lw_cw : lw_tbl[450]? = some (Cond.code yL_cell cL_cell 2 (some .int)) ∧ lw_tbl[449]? = some (Cond.static yL_cell) ∧ lw_tbl[451]? = some (Cond.constant R_law 7 763049417) ∧ lw_tbl[448]? = some (Cond.methodLink R_law 115 yL_cell) ∧ lw_tbl[29]? = some (Cond.initialized R_law) := by decide +kernel
def lw_wsc : List Cond := Cond.code yL_cell cL_cell 2 (some .int) :: qtb
theorem lw_wsc_good : GoodIn qtb lw_wsc := by
  intro w hw
  rcases List.mem_cons.mp hw with rfl | hw
  · exact ⟨qtb_at lw_cw.1 rfl, qtb_good (qtb_at lw_cw.1 rfl)⟩
  · exact ⟨hw, qtb_good hw⟩
def lw_PcC (b L : Nat) (xs : Nat → Int32) (k : Nat) : Array Value → State → Prop := fun args U => args = ([Value.ref b, Value.int (nI k)] : List Value).toArray ∧ va_X b L xs U U.heap ∧ b < U.heap.size
def lw_QcC : Array Value → State → Outcome → State → Prop := fun _ st oc t => (∃ v : Int32, oc = .returned (some (.int v))) ∧ t.heap = st.heap
theorem lw_cell (l : Launch) {b L : Nat} {xs : Nat → Int32} {k : Nat} (hL : L ≤ 260) (hk : k ≤ 300) : Met l yL_cell lw_wsc { frames := 0, cells := 0, slots := 0, locals := 0 } (lw_PcC b L xs k) lw_QcC 0 0 (fun _ => False) := by
  refine Met.ofW (cc := cL_cell) (maxL := 2) (ret := some .int) (by decide +kernel) rfl ?_
  intro p e s m args below meth c s₁ B hml hv
  obtain ⟨rfl, hX, hbl⟩ := hv
  have hts := atoms_spec (ws := lw_wsc) B.pre
  have hown : s.vm.findClass R_law = some m.cls := findClass_of_methodNamed B.named
  have hx := B.exec
  have hb := B.bytes
  have hS : va_S (fun _ => False) s.heap s.heap [] := va_S.rf
  have hl := lv_entry ([.ref b, .int (nI k)]) (n := 2) (Nat.le_of_ble_eq_true rfl)
  rw [lg_entry_eq]
  generalize (lg_sl ([.ref b, .int (nI k)]) ++ List.replicate (2 - (lg_sl ([.ref b, .int (nI k)])).length) Slot.unset).toArray = ls at hl ⊢
  have hl : lv_has ls 2 [(0, .ref b), (1, .int (nI k))] := hl
  have hend : ∀ (v : Int32), W p l e (headSpec lw_wsc { frames := 0, cells := 0, slots := 0, locals := 0 }).room s m ([Value.ref b, Value.int (nI k)] : List Value).toArray below meth c s.heap [] 0 0 (MQ below lw_QcC ([Value.ref b, Value.int (nI k)] : List Value).toArray s 0 0 (fun _ => False)) (F0 m 18 ls [.int v]) := fun v =>
    W.iret hx hb B.returns (fun t ht hW => ⟨⟨v, rfl⟩, ht⟩) (fun q hq => absurd hq List.not_mem_nil) dc_18 B.notSynchronized
  refine lv_iload_n hx hb dc_0 rfl (lv_at hl 1 rfl) ?_
  refine lv_aload_n hx hb dc_1 rfl (lv_at hl 0 rfl) ?_
  refine va_slen (A := fun _ => False) hx hb hX hbl id hS dc_2 ?_
  refine lv_icmp_ge (tgt := 12) hx hb dc_3 (by decide) (fun hc => ?_) (fun hc => ?_)
  · refine lv_ldc hx hb hown (hts _ (List.mem_cons_of_mem _ (qtb_at lw_cw.2.2.1 rfl))) dc_12 ?_
    refine lv_iload_n hx hb dc_14 rfl (lv_at hl 1 rfl) ?_
    refine lv_iconst (v := 3) hx hb dc_15 (by decide) ?_
    refine lv_iadd hx hb dc_16 ?_
    refine lv_imul hx hb dc_17 ?_
    exact hend _
  · have hkL : k < L := by
      rw [Int32.le_iff_toInt_le, nI_toInt (by omega)] at hc
      have e4 : (Int32.ofNat L).toInt = (L : Int) := by
        rw [← Int32.ofInt_eq_ofNat]
        exact qti ⟨by omega, by omega⟩
      rw [e4] at hc
      omega
    refine lv_aload_n hx hb dc_6 rfl (lv_at hl 0 rfl) ?_
    refine lv_iload_n hx hb dc_7 rfl (lv_at hl 1 rfl) ?_
    refine va_sld (A := fun _ => False) hx hb hX hbl id hS (vp_in_nI hkL (by omega)) dc_8 ?_
    refine lv_goto (tgt := 18) hx hb dc_9 (by decide) ?_
    exact hend _
