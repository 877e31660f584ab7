/-! The start: both objects hold the empty world -/
def qw0 : qWd := (([], [], 2, []), [], [])
theorem qm2_p : [((145 : Nat), (1 : Int), (0 : Int)), (147, 1, 0), (144, 2, 0), (144, 3, 0), (144, 4, 2), (139, 1, 0), (138, 1, 0), (7, 1, 0), (9, 1, 0), (12, 1, 0), (11, 1, 0), (14, 1, 0), (1, 1, 0), (3, 1, 0), (142, 1, 0), (141, 1, 0), (149, 1, 0), (177, 0, 0), (177, 1, 0), (177, 2, 0), (177, 3, 2), (176, 2, 0), (176, 5, 0)].all (fun q => decide (qm2 q.1 q.2.1 = q.2.2)) = true := by decide +kernel
theorem qm2_at {a : Nat} {j v : Int} (h : (a, j, v) ∈ [((145 : Nat), (1 : Int), (0 : Int)), (147, 1, 0), (144, 2, 0), (144, 3, 0), (144, 4, 2), (139, 1, 0), (138, 1, 0), (7, 1, 0), (9, 1, 0), (12, 1, 0), (11, 1, 0), (14, 1, 0), (1, 1, 0), (3, 1, 0), (142, 1, 0), (141, 1, 0), (149, 1, 0), (177, 0, 0), (177, 1, 0), (177, 2, 0), (177, 3, 2), (176, 2, 0), (176, 5, 0)]) : qm2 a j = v := of_decide_eq_true (List.all_eq_true.mp qm2_p _ h)
theorem qRw0 {z : Nat} (h : qm2 z 1 = 0) : qRw qm2 z [] := ⟨h, fun i hi => absurd hi (Nat.not_lt_zero _)⟩
theorem qFm0 {z : Nat} (h1 : qm2 z 1 = 0) (h2 : qm2 (z + 1) 1 = 0) : qFm qm2 z [] := ⟨qRw0 h2, h1, Nat.zero_le _⟩
theorem qCp0 : qCp qm2 qr2 qw0 := by
  refine ⟨[], fun i => 151 + 5 * i, [], [], ([], [], [], qm2 5 3, qm2 5 4, qm2 5 5, qm2 5 6), [], [], qE2, qHr2, ⟨⟨qRw0 (qm2_at (by decide)), qRw0 (qm2_at (by decide)), qm2_at (by decide), qm2_at (by decide), qm2_at (by decide), Nat.zero_le _, rfl⟩, ⟨Nat.zero_le _, fun s hs => absurd hs (Nat.not_lt_zero _), qFm0 (qm2_at (by decide)) (qm2_at (by decide))⟩, fun i hi => absurd hi (Nat.not_lt_zero _)⟩, List.prefix_refl _, ⟨⟨qRw0 (qm2_at (by decide)), qRw0 (qm2_at (by decide)), Nat.zero_le _⟩, qFm0 (qm2_at (by decide)) (qm2_at (by decide)), qRw0 (qm2_at (by decide)), Nat.zero_le _, rfl, rfl, rfl, rfl⟩, rfl, qRw0 (qm2_at (by decide)), qRw0 (qm2_at (by decide)), qFm0 (qm2_at (by decide)) (qm2_at (by decide)), ⟨qm2_at (by decide), Nat.zero_le _, fun i hi => absurd hi (Nat.not_lt_zero _)⟩, rfl, fun i hi _ => absurd hi (Nat.not_lt_zero _)⟩
theorem qMo0 : qMo qm2 qw0 := by
  refine ⟨⟨⟨qm2_at (by decide), qm2_at (by decide), qm2_at (by decide), qm2_at (by decide)⟩, fun p h0 h1 => ?_, fun s h0 h1 => ?_, fun i h0 h1 => ?_⟩, qm2_at (by decide), fun i hi => absurd hi (Nat.not_lt_zero _), qm2_at (by decide), fun k hk => absurd hk (Nat.not_lt_zero _)⟩
  · have h2 : p < 0 := h1
    omega
  · have h2 : s < 0 := h1
    omega
  · have h2 : i < 0 := h1
    omega
theorem qWN0 : qWN qw0 := by
  refine ⟨⟨⟨⟨Nat.zero_le _, fun i h => absurd h (Nat.not_lt_zero _)⟩, Nat.zero_le _, fun fs h => absurd h List.not_mem_nil, by decide, Nat.zero_le _, fun rc h => absurd h List.not_mem_nil⟩, fun a h => absurd h List.not_mem_nil, Nat.zero_le _, Nat.zero_le _, List.pairwise_singleton _ _⟩, List.nodup_nil, fun a h => absurd h List.not_mem_nil⟩
