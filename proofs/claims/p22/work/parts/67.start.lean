/-! The start: what the constructor leaves, and the row -/
theorem qrun1_some : qrun1 = some (none, qs1) := by
  have h1 := qrun1_T
  cases hx : qrun1 with
  | none => rw [hx] at h1; cases h1
  | some x =>
    rw [hx] at h1
    have h2 : (x.1, x.2.1) = (none, qT0.take 176) := Option.some.inj h1
    have h3 : qs1 = x.2 := by unfold qs1; rw [hx]
    rw [h3]
    exact congrArg some (Prod.ext (Prod.mk.inj h2).1 rfl)
theorem qs1_T : qs1.1 = qT0.take 176 := by
  have h1 := qrun1_T
  rw [qrun1_some] at h1
  exact (Prod.mk.inj (Option.some.inj h1)).2
def qs2 : qM := qold qs1 (1, 64)
theorem qs2_T : qs2.1 = qT0 := by
  show qs1.1 ++ [(1, 64)] = qT0
  rw [qs1_T]
  decide +kernel
def qm2 : Nat → Int → Int := qs2.2.1
def qr2 : Nat → Int → Option Nat := qs2.2.2
theorem qr2_a : (List.range 177).all (fun k => (List.range 19).all (fun j => decide (qr2 k (j : Nat) = qr0 k (j : Nat)))) = true := by decide +kernel
theorem qr2_b : (List.range 40).all (fun j => decide (qr2 17 (j : Nat) = qr0 17 (j : Nat))) = true := by decide +kernel
theorem qr0_o : (List.range 177).all (fun k => decide (((qL0.getD k []).length ≤ 19 ∨ k = 17) ∧ (qL0.getD k []).length ≤ 40)) = true ∧ qL0.length = 177 ∧ (List.range 177).all (fun k => match qT0[k]? with
  | some kd => decide ((qsr' kd ≤ 19 ∨ k = 17) ∧ qsr' kd ≤ 40)
  | none => true) = true := by decide +kernel
theorem qs1_sup : qSup qs1 := by
  have h1 := qrun1_T
  unfold qs1
  cases hx : qrun1 with
  | none => rw [hx] at h1; cases h1
  | some x => exact qev_sup _ _ _ _ _ _ _ _ (fun _ _ _ => rfl) hx
theorem qs2_sup : qSup qs2 := qSup_old qs1_sup
theorem qT0_len : qT0.length = 177 := by decide +kernel
theorem qr2_E : ∀ (k : Nat) (j : Int), qr2 k j = qr0 k j := by
  intro k j
  by_cases hj : j < 0
  · have h1 : qr2 k j = none := qs2_sup k j (fun kd _ e => by omega)
    rw [h1]
    unfold qr0
    rw [if_neg (by omega)]
  obtain ⟨j, rfl⟩ : ∃ y : Nat, j = y := ⟨j.toNat, by omega⟩
  obtain ⟨o1, o2, o3⟩ := qr0_o
  by_cases hk : k < 177
  · have hk2 := List.mem_range.mpr hk
    have a1 := of_decide_eq_true (List.all_eq_true.mp o1 k hk2)
    have a3 := List.all_eq_true.mp o3 k hk2
    by_cases h19 : j < 19
    · exact of_decide_eq_true (List.all_eq_true.mp (List.all_eq_true.mp qr2_a k hk2) j (List.mem_range.mpr h19))
    · by_cases h17 : k = 17 ∧ j < 40
      · rw [h17.1]
        exact of_decide_eq_true (List.all_eq_true.mp qr2_b j (List.mem_range.mpr h17.2))
      · have h1 : qr2 k (j : Nat) = none := qs2_sup k j (fun kd hkd e => by
          rw [qs2_T] at hkd
          rw [hkd] at a3
          have a4 := of_decide_eq_true a3
          omega)
        rw [h1]
        unfold qr0
        rw [if_pos (by omega), Int.toNat_natCast, List.getElem?_eq_none (by omega)]
        rfl
  · have h1 : qr2 k (j : Nat) = none := qs2_sup k j (fun kd hkd e => by
      rw [qs2_T, List.getElem?_eq_none (by rw [qT0_len]; omega)] at hkd
      cases hkd)
    rw [h1]
    unfold qr0
    have e9 : qL0[k]? = none := List.getElem?_eq_none (by rw [o2]; omega)
    rw [if_pos (by omega), List.getD_eq_getElem?_getD, e9]
    rfl
theorem qE2 : qE qr2 := fun k j _ => qr2_E k j
theorem qHr2 : qHr qr2 (fun i => 151 + 5 * i) := by
  intro i hi
  refine ⟨?_, ⟨i, hi, rfl⟩, fun j _ e => by have e9 : 151 + 5 * i = 151 + 5 * j := e; omega⟩
  rw [qr2_E]
  have h : ∀ i : Nat, i < 5 → qr0 150 i = some (151 + 5 * i) := by decide +kernel
  exact h i hi
def qw0 : qWd := (([], [], 2, []), [], [])
def qpts : List (Nat × Int × Int) := [((145 : Nat), (1 : Int), (0 : Int)), (147, 1, 0), (144, 2, 0), (144, 3, 0), (144, 4, 2), (139, 1, 0), (138, 1, 0), (7, 1, 0), (9, 1, 0), (12, 1, 0), (11, 1, 0), (14, 1, 0), (1, 1, 0), (3, 1, 0), (142, 1, 0), (141, 1, 0), (149, 1, 0)]
theorem qpts_of {g : Nat → Int → Int} {l : List (Nat × Int × Int)} (h : l.all (fun q => decide (g q.1 q.2.1 = q.2.2)) = true) : ∀ q ∈ l, g q.1 q.2.1 = q.2.2 := fun q hq => of_decide_eq_true (List.all_eq_true.mp h q hq)
theorem qm2_p : qpts.all (fun q => decide (qm2 q.1 q.2.1 = q.2.2)) = true := by decide +kernel
theorem qRw0 {m : Nat → Int → Int} {z : Nat} (h : m z 1 = 0) : qRw m z [] := ⟨h, fun i hi => absurd hi (Nat.not_lt_zero _)⟩
theorem qFm0 {m : Nat → Int → Int} {z : Nat} (h1 : m z 1 = 0) (h2 : m (z + 1) 1 = 0) : qFm m z [] := ⟨qRw0 h2, h1, Nat.zero_le _⟩
theorem qCp0_of {m : Nat → Int → Int} {r : Nat → Int → Option Nat} (hE : qE r) (hH : qHr r (fun i => 151 + 5 * i)) (f : ∀ q ∈ qpts, m q.1 q.2.1 = q.2.2) : qCp m r qw0 := by
  have g : ∀ (a : Nat) (j v : Int), (a, j, v) ∈ qpts → m a j = v := fun a j v h => f (a, j, v) h
  refine ⟨[], fun i => 151 + 5 * i, [], [], ([], [], [], m 5 3, m 5 4, m 5 5, m 5 6), [], [], hE, hH, ⟨⟨qRw0 (g _ _ _ (by decide)), qRw0 (g _ _ _ (by decide)), g _ _ _ (by decide), g _ _ _ (by decide), g _ _ _ (by decide), Nat.zero_le _, rfl⟩, ⟨Nat.zero_le _, fun s hs => absurd hs (Nat.not_lt_zero _), qFm0 (g _ _ _ (by decide)) (g _ _ _ (by decide))⟩, fun i hi => absurd hi (Nat.not_lt_zero _)⟩, List.prefix_refl _, ⟨⟨qRw0 (g _ _ _ (by decide)), qRw0 (g _ _ _ (by decide)), Nat.zero_le _⟩, qFm0 (g _ _ _ (by decide)) (g _ _ _ (by decide)), qRw0 (g _ _ _ (by decide)), Nat.zero_le _, rfl, rfl, rfl, rfl⟩, rfl, qRw0 (g _ _ _ (by decide)), qRw0 (g _ _ _ (by decide)), qFm0 (g _ _ _ (by decide)) (g _ _ _ (by decide)), ⟨g _ _ _ (by decide), Nat.zero_le _, fun i hi => absurd hi (Nat.not_lt_zero _)⟩, rfl, fun i hi _ => absurd hi (Nat.not_lt_zero _)⟩
theorem qCp0 : qCp qm2 qr2 qw0 := qCp0_of qE2 qHr2 (qpts_of qm2_p)
theorem qWN0 : qWN qw0 := by
  refine ⟨⟨⟨⟨Nat.zero_le _, fun i h => absurd h (Nat.not_lt_zero _)⟩, Nat.zero_le _, fun fs h => absurd h List.not_mem_nil, by decide, Nat.zero_le _, fun rc h => absurd h List.not_mem_nil⟩, fun a h => absurd h List.not_mem_nil, Nat.zero_le _, Nat.zero_le _, List.pairwise_singleton _ _⟩, List.nodup_nil, fun a h => absurd h List.not_mem_nil⟩
theorem qXN0 : qXN qw0 := ⟨qWN0, ⟨List.nodup_nil, fun fs h => absurd h List.not_mem_nil⟩, fun a h => absurd h List.not_mem_nil⟩
theorem q3_eq {σ : qM} {T : List (Nat × Nat)} (h : σ.1 = T) : σ = (T, σ.2.1, σ.2.2) := by
  obtain ⟨a, b, c⟩ := σ
  cases h
  rfl
theorem qs2_eq : qs2 = (qT0, qm2, qr2) := q3_eq qs2_T
theorem qOb0 : qOb qm2 qr2 qw0 := ⟨qCp0, qXN0⟩
