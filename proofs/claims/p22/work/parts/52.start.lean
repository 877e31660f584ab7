/-! The start: what the constructors leave -/
theorem qrun2_T : qrun2.map (fun x => (x.1, x.2.1)) = some (none, qT0) := by decide +kernel
def qm2 : Nat → Int → Int := qs2.2.1
def qr2 : Nat → Int → Option Nat := qs2.2.2
theorem qm2_n : qm2 145 1 = 0 ∧ qm2 147 1 = 0 ∧ qm2 144 2 = 0 ∧ qm2 144 3 = 0 ∧ qm2 144 4 = 2 ∧ qm2 149 1 = 0 ∧ qm2 1 1 = 0 ∧ qm2 3 1 = 0 := by decide +kernel
theorem qr2_a : (List.range 188).all (fun k => (List.range 19).all (fun j => decide (qr2 k (j : Nat) = qr0 k (j : Nat)))) = true := by decide +kernel
theorem qr2_b : (List.range 40).all (fun j => decide (qr2 17 (j : Nat) = qr0 17 (j : Nat))) = true := by decide +kernel
theorem qr0_o : (List.range 188).all (fun k => decide (((qL0.getD k []).length ≤ 19 ∨ k = 17) ∧ (qL0.getD k []).length ≤ 40)) = true ∧ qL0.length = 188 ∧ (List.range 188).all (fun k => match qT0[k]? with
  | some kd => decide ((qsr' kd ≤ 19 ∨ k = 17) ∧ qsr' kd ≤ 40)
  | none => true) = true := by decide +kernel
