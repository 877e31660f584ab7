/-! The start: both objects hold the empty world -/
def qw0 : qWd := (([], [], 2, []), [], [])
def qpts : List (Nat × Int × Int) := [((145 : Nat), (1 : Int), (0 : Int)), (147, 1, 0), (144, 2, 0), (144, 3, 0), (144, 4, 2), (139, 1, 0), (138, 1, 0), (7, 1, 0), (9, 1, 0), (12, 1, 0), (11, 1, 0), (14, 1, 0), (1, 1, 0), (3, 1, 0), (142, 1, 0), (141, 1, 0), (149, 1, 0), (177, 0, 0), (177, 1, 0), (177, 2, 0), (177, 3, 2), (176, 2, 0), (176, 5, 0)]
theorem qpts_of {g : Nat → Int → Int} {l : List (Nat × Int × Int)} (h : l.all (fun q => decide (g q.1 q.2.1 = q.2.2)) = true) : ∀ q ∈ l, g q.1 q.2.1 = q.2.2 := fun q hq => of_decide_eq_true (List.all_eq_true.mp h q hq)
theorem qm2_p : qpts.all (fun q => decide (qm2 q.1 q.2.1 = q.2.2)) = true := by decide +kernel
theorem qRw0 {m : Nat → Int → Int} {z : Nat} (h : m z 1 = 0) : qRw m z [] := ⟨h, fun i hi => absurd hi (Nat.not_lt_zero _)⟩
theorem qFm0 {m : Nat → Int → Int} {z : Nat} (h1 : m z 1 = 0) (h2 : m (z + 1) 1 = 0) : qFm m z [] := ⟨qRw0 h2, h1, Nat.zero_le _⟩
theorem qCp0_of {m : Nat → Int → Int} {r : Nat → Int → Option Nat} (hE : qE r) (hH : qHr r (fun i => 151 + 5 * i)) (f : ∀ q ∈ qpts, m q.1 q.2.1 = q.2.2) : qCp m r qw0 := by
  have g : ∀ (a : Nat) (j v : Int), (a, j, v) ∈ qpts → m a j = v := fun a j v h => f (a, j, v) h
  refine ⟨[], fun i => 151 + 5 * i, [], [], ([], [], [], m 5 3, m 5 4, m 5 5, m 5 6), [], [], hE, hH, ⟨⟨qRw0 (g _ _ _ (by decide)), qRw0 (g _ _ _ (by decide)), g _ _ _ (by decide), g _ _ _ (by decide), g _ _ _ (by decide), Nat.zero_le _, rfl⟩, ⟨Nat.zero_le _, fun s hs => absurd hs (Nat.not_lt_zero _), qFm0 (g _ _ _ (by decide)) (g _ _ _ (by decide))⟩, fun i hi => absurd hi (Nat.not_lt_zero _)⟩, List.prefix_refl _, ⟨⟨qRw0 (g _ _ _ (by decide)), qRw0 (g _ _ _ (by decide)), Nat.zero_le _⟩, qFm0 (g _ _ _ (by decide)) (g _ _ _ (by decide)), qRw0 (g _ _ _ (by decide)), Nat.zero_le _, rfl, rfl, rfl, rfl⟩, rfl, qRw0 (g _ _ _ (by decide)), qRw0 (g _ _ _ (by decide)), qFm0 (g _ _ _ (by decide)) (g _ _ _ (by decide)), ⟨g _ _ _ (by decide), Nat.zero_le _, fun i hi => absurd hi (Nat.not_lt_zero _)⟩, rfl, fun i hi _ => absurd hi (Nat.not_lt_zero _)⟩
theorem qMo0_of {m : Nat → Int → Int} (f : ∀ q ∈ qpts, m q.1 q.2.1 = q.2.2) : qMo m qw0 := by
  have g : ∀ (a : Nat) (j v : Int), (a, j, v) ∈ qpts → m a j = v := fun a j v h => f (a, j, v) h
  refine ⟨⟨⟨g _ _ _ (by decide), g _ _ _ (by decide), g _ _ _ (by decide), g _ _ _ (by decide)⟩, fun p h0 h1 => ?_, fun s h0 h1 => ?_, fun i h0 h1 => ?_⟩, g _ _ _ (by decide), fun i hi => absurd hi (Nat.not_lt_zero _), g _ _ _ (by decide), fun k hk => absurd hk (Nat.not_lt_zero _)⟩
  · have h2 : p < 0 := h1
    omega
  · have h2 : s < 0 := h1
    omega
  · have h2 : i < 0 := h1
    omega
theorem qCp0 : qCp qm2 qr2 qw0 := qCp0_of qE2 qHr2 (qpts_of qm2_p)
theorem qMo0 : qMo qm2 qw0 := qMo0_of (qpts_of qm2_p)
theorem qWN0 : qWN qw0 := by
  refine ⟨⟨⟨⟨Nat.zero_le _, fun i h => absurd h (Nat.not_lt_zero _)⟩, Nat.zero_le _, fun fs h => absurd h List.not_mem_nil, by decide, Nat.zero_le _, fun rc h => absurd h List.not_mem_nil⟩, fun a h => absurd h List.not_mem_nil, Nat.zero_le _, Nat.zero_le _, List.pairwise_singleton _ _⟩, List.nodup_nil, fun a h => absurd h List.not_mem_nil⟩
