/-! The start: the references are as they were made -/
theorem qs1_sup : qSup qs1 := by
  have h1 := qrun1_T
  unfold qs1
  cases hx : qrun1 with
  | none => rw [hx] at h1; cases h1
  | some x => exact qev_sup _ _ _ _ _ _ _ _ (fun _ _ _ => rfl) hx
theorem qs2_sup : qSup qs2 := by
  have h1 := qrun2_T
  unfold qs2
  cases hx : qrun2 with
  | none => rw [hx] at h1; cases h1
  | some x => exact qev_sup _ _ _ _ _ _ _ _ (qSup_old qs1_sup) hx
theorem qs2_T : qs2.1 = qT0 := by
  have h1 := qrun2_T
  unfold qs2
  cases hx : qrun2 with
  | none => rw [hx] at h1; cases h1
  | some x =>
    rw [hx] at h1
    exact (Prod.mk.inj (Option.some.inj h1)).2
theorem qT0_len : qT0.length = 188 := by decide +kernel
theorem qr2_E : ∀ (k : Nat) (j : Int), qr2 k j = qr0 k j := by
  intro k j
  by_cases hj : j < 0
  · have h1 : qr2 k j = none := qs2_sup k j (fun kd _ e => by omega)
    rw [h1]
    unfold qr0
    rw [if_neg (by omega)]
  obtain ⟨j, rfl⟩ : ∃ y : Nat, j = y := ⟨j.toNat, by omega⟩
  obtain ⟨o1, o2, o3⟩ := qr0_o
  by_cases hk : k < 188
  · have hk2 := List.mem_range.mpr hk
    have a1 := of_decide_eq_true (List.all_eq_true.mp o1 k hk2)
    have a3 := List.all_eq_true.mp o3 k hk2
    by_cases h19 : j < 19
    · exact of_decide_eq_true (List.all_eq_true.mp (List.all_eq_true.mp qr2_a k hk2) j (List.mem_range.mpr h19))
    · by_cases h17 : k = 17 ∧ j < 40
      · rw [h17.1]
        exact of_decide_eq_true (List.all_eq_true.mp qr2_b j (List.mem_range.mpr h17.2))
      · have h1 : qr2 k (j : Nat) = none := qs2_sup k j (fun kd hkd e => by
          rw [qs2_T] at hkd
          rw [hkd] at a3
          have a4 := of_decide_eq_true a3
          omega)
        rw [h1]
        unfold qr0
        rw [if_pos (by omega), Int.toNat_natCast, List.getElem?_eq_none (by omega)]
        rfl
  · have h1 : qr2 k (j : Nat) = none := qs2_sup k j (fun kd hkd e => by
      rw [qs2_T, List.getElem?_eq_none (by rw [qT0_len]; omega)] at hkd
      cases hkd)
    rw [h1]
    unfold qr0
    have e9 : qL0[k]? = none := List.getElem?_eq_none (by rw [o2]; omega)
    rw [if_pos (by omega), List.getD_eq_getElem?_getD, e9]
    rfl
theorem qE2 : qE qr2 := fun k j _ => qr2_E k j
theorem qHr2 : qHr qr2 (fun i => 151 + 5 * i) := by
  intro i hi
  refine ⟨?_, ⟨i, hi, rfl⟩, fun j _ e => by have e9 : 151 + 5 * i = 151 + 5 * j := e; omega⟩
  rw [qr2_E]
  have h : ∀ i : Nat, i < 5 → qr0 150 i = some (151 + 5 * i) := by decide +kernel
  exact h i hi
