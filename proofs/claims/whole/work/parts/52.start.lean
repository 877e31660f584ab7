/-! The start: what the constructors leave -/
theorem qrun2_T : qrun2.map (fun x => (x.1, x.2.1)) = some (none, qT0) := by decide +kernel
def qm2 : Nat → Int → Int := qs2.2.1
def qr2 : Nat → Int → Option Nat := qs2.2.2
theorem qm2_n : qm2 145 1 = 0 ∧ qm2 147 1 = 0 ∧ qm2 144 2 = 0 ∧ qm2 144 3 = 0 ∧ qm2 144 4 = 2 ∧ qm2 149 1 = 0 ∧ qm2 1 1 = 0 ∧ qm2 3 1 = 0 := by decide +kernel
