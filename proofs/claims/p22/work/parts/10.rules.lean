/-! Rules of qW, one an instruction; numbers are Int -/
theorem qr_const {k pc : Nat} {L S : List qA} {T : List (Nat × Nat)} {m : Nat → Int → Int} {r : Nat → Int → Option Nat} {Q : qA → qM → Prop} {a : Int} {b : Nat} {c : List Nat} {nx : Nat}  (hc : qcd k pc = some (0, a, b, c, nx)) (h : qin a := by decide) (w : qW k nx L (qI a :: S) (T, m, r) Q) : qW k pc L S (T, m, r) Q := by
  exact qW_step hc (by decide) (by simp only [qstep, if_pos h]) w
theorem qr_il {k pc : Nat} {L S : List qA} {T : List (Nat × Nat)} {m : Nat → Int → Int} {r : Nat → Int → Option Nat} {Q : qA → qM → Prop} {a : Int} {b : Nat} {c : List Nat} {nx : Nat} {x : Int} (hc : qcd k pc = some (1, a, b, c, nx)) (hl : L[b]? = some (some (Sum.inl x))) (w : qW k nx L (qI x :: S) (T, m, r) Q) : qW k pc L S (T, m, r) Q := by
  exact qW_step hc (by decide) (by simp only [qstep, hl]) w
theorem qr_al {k pc : Nat} {L S : List qA} {T : List (Nat × Nat)} {m : Nat → Int → Int} {r : Nat → Int → Option Nat} {Q : qA → qM → Prop} {a : Int} {b : Nat} {c : List Nat} {nx : Nat} {x : Nat} (hc : qcd k pc = some (2, a, b, c, nx)) (hl : L[b]? = some (some (Sum.inr (Sum.inl x)))) (w : qW k nx L (qK x :: S) (T, m, r) Q) : qW k pc L S (T, m, r) Q := by
  exact qW_step hc (by decide) (by simp only [qstep, hl]) w
theorem qr_is0 {k pc : Nat} {L S : List qA} {T : List (Nat × Nat)} {m : Nat → Int → Int} {r : Nat → Int → Option Nat} {Q : qA → qM → Prop} {a : Int} {c : List Nat} {nx : Nat} {x : Int} {x0 : qA} (hc : qcd k pc = some (3, a, 0, c, nx))  (w : qW k nx (qI x :: L) S (T, m, r) Q) : qW k pc (x0 :: L) (qI x :: S) (T, m, r) Q := by
  exact qW_step hc (by decide) (by simp [qstep]) w
theorem qr_as0 {k pc : Nat} {L S : List qA} {T : List (Nat × Nat)} {m : Nat → Int → Int} {r : Nat → Int → Option Nat} {Q : qA → qM → Prop} {a : Int} {c : List Nat} {nx : Nat} {x : Nat} {x0 : qA} (hc : qcd k pc = some (4, a, 0, c, nx))  (w : qW k nx (qK x :: L) S (T, m, r) Q) : qW k pc (x0 :: L) (qK x :: S) (T, m, r) Q := by
  exact qW_step hc (by decide) (by simp [qstep]) w
theorem qr_inc0 {k pc : Nat} {L S : List qA} {T : List (Nat × Nat)} {m : Nat → Int → Int} {r : Nat → Int → Option Nat} {Q : qA → qM → Prop} {a : Int} {c : List Nat} {nx : Nat} {x : Int}  (hc : qcd k pc = some (5, a, 0, c, nx)) (h : qin (x + a)) (w : qW k nx (qI (x + a) :: L) S (T, m, r) Q) : qW k pc (qI x :: L) S (T, m, r) Q := by
  exact qW_step hc (by decide) (by simp [qstep]; exact h) w
theorem qr_is1 {k pc : Nat} {L S : List qA} {T : List (Nat × Nat)} {m : Nat → Int → Int} {r : Nat → Int → Option Nat} {Q : qA → qM → Prop} {a : Int} {c : List Nat} {nx : Nat} {x : Int} {x0 x1 : qA} (hc : qcd k pc = some (3, a, 1, c, nx))  (w : qW k nx (x0 :: qI x :: L) S (T, m, r) Q) : qW k pc (x0 :: x1 :: L) (qI x :: S) (T, m, r) Q := by
  exact qW_step hc (by decide) (by simp [qstep]) w
theorem qr_as1 {k pc : Nat} {L S : List qA} {T : List (Nat × Nat)} {m : Nat → Int → Int} {r : Nat → Int → Option Nat} {Q : qA → qM → Prop} {a : Int} {c : List Nat} {nx : Nat} {x : Nat} {x0 x1 : qA} (hc : qcd k pc = some (4, a, 1, c, nx))  (w : qW k nx (x0 :: qK x :: L) S (T, m, r) Q) : qW k pc (x0 :: x1 :: L) (qK x :: S) (T, m, r) Q := by
  exact qW_step hc (by decide) (by simp [qstep]) w
theorem qr_inc1 {k pc : Nat} {L S : List qA} {T : List (Nat × Nat)} {m : Nat → Int → Int} {r : Nat → Int → Option Nat} {Q : qA → qM → Prop} {a : Int} {c : List Nat} {nx : Nat} {x : Int} {x0 : qA} (hc : qcd k pc = some (5, a, 1, c, nx)) (h : qin (x + a)) (w : qW k nx (x0 :: qI (x + a) :: L) S (T, m, r) Q) : qW k pc (x0 :: qI x :: L) S (T, m, r) Q := by
  exact qW_step hc (by decide) (by simp [qstep]; exact h) w
theorem qr_is2 {k pc : Nat} {L S : List qA} {T : List (Nat × Nat)} {m : Nat → Int → Int} {r : Nat → Int → Option Nat} {Q : qA → qM → Prop} {a : Int} {c : List Nat} {nx : Nat} {x : Int} {x0 x1 x2 : qA} (hc : qcd k pc = some (3, a, 2, c, nx))  (w : qW k nx (x0 :: x1 :: qI x :: L) S (T, m, r) Q) : qW k pc (x0 :: x1 :: x2 :: L) (qI x :: S) (T, m, r) Q := by
  exact qW_step hc (by decide) (by simp [qstep]) w
theorem qr_as2 {k pc : Nat} {L S : List qA} {T : List (Nat × Nat)} {m : Nat → Int → Int} {r : Nat → Int → Option Nat} {Q : qA → qM → Prop} {a : Int} {c : List Nat} {nx : Nat} {x : Nat} {x0 x1 x2 : qA} (hc : qcd k pc = some (4, a, 2, c, nx))  (w : qW k nx (x0 :: x1 :: qK x :: L) S (T, m, r) Q) : qW k pc (x0 :: x1 :: x2 :: L) (qK x :: S) (T, m, r) Q := by
  exact qW_step hc (by decide) (by simp [qstep]) w
theorem qr_inc2 {k pc : Nat} {L S : List qA} {T : List (Nat × Nat)} {m : Nat → Int → Int} {r : Nat → Int → Option Nat} {Q : qA → qM → Prop} {a : Int} {c : List Nat} {nx : Nat} {x : Int} {x0 x1 : qA} (hc : qcd k pc = some (5, a, 2, c, nx)) (h : qin (x + a)) (w : qW k nx (x0 :: x1 :: qI (x + a) :: L) S (T, m, r) Q) : qW k pc (x0 :: x1 :: qI x :: L) S (T, m, r) Q := by
  exact qW_step hc (by decide) (by simp [qstep]; exact h) w
theorem qr_is3 {k pc : Nat} {L S : List qA} {T : List (Nat × Nat)} {m : Nat → Int → Int} {r : Nat → Int → Option Nat} {Q : qA → qM → Prop} {a : Int} {c : List Nat} {nx : Nat} {x : Int} {x0 x1 x2 x3 : qA} (hc : qcd k pc = some (3, a, 3, c, nx))  (w : qW k nx (x0 :: x1 :: x2 :: qI x :: L) S (T, m, r) Q) : qW k pc (x0 :: x1 :: x2 :: x3 :: L) (qI x :: S) (T, m, r) Q := by
  exact qW_step hc (by decide) (by simp [qstep]) w
theorem qr_as3 {k pc : Nat} {L S : List qA} {T : List (Nat × Nat)} {m : Nat → Int → Int} {r : Nat → Int → Option Nat} {Q : qA → qM → Prop} {a : Int} {c : List Nat} {nx : Nat} {x : Nat} {x0 x1 x2 x3 : qA} (hc : qcd k pc = some (4, a, 3, c, nx))  (w : qW k nx (x0 :: x1 :: x2 :: qK x :: L) S (T, m, r) Q) : qW k pc (x0 :: x1 :: x2 :: x3 :: L) (qK x :: S) (T, m, r) Q := by
  exact qW_step hc (by decide) (by simp [qstep]) w
theorem qr_inc3 {k pc : Nat} {L S : List qA} {T : List (Nat × Nat)} {m : Nat → Int → Int} {r : Nat → Int → Option Nat} {Q : qA → qM → Prop} {a : Int} {c : List Nat} {nx : Nat} {x : Int} {x0 x1 x2 : qA} (hc : qcd k pc = some (5, a, 3, c, nx)) (h : qin (x + a)) (w : qW k nx (x0 :: x1 :: x2 :: qI (x + a) :: L) S (T, m, r) Q) : qW k pc (x0 :: x1 :: x2 :: qI x :: L) S (T, m, r) Q := by
  exact qW_step hc (by decide) (by simp [qstep]; exact h) w
theorem qr_is4 {k pc : Nat} {L S : List qA} {T : List (Nat × Nat)} {m : Nat → Int → Int} {r : Nat → Int → Option Nat} {Q : qA → qM → Prop} {a : Int} {c : List Nat} {nx : Nat} {x : Int} {x0 x1 x2 x3 x4 : qA} (hc : qcd k pc = some (3, a, 4, c, nx))  (w : qW k nx (x0 :: x1 :: x2 :: x3 :: qI x :: L) S (T, m, r) Q) : qW k pc (x0 :: x1 :: x2 :: x3 :: x4 :: L) (qI x :: S) (T, m, r) Q := by
  exact qW_step hc (by decide) (by simp [qstep]) w
theorem qr_as4 {k pc : Nat} {L S : List qA} {T : List (Nat × Nat)} {m : Nat → Int → Int} {r : Nat → Int → Option Nat} {Q : qA → qM → Prop} {a : Int} {c : List Nat} {nx : Nat} {x : Nat} {x0 x1 x2 x3 x4 : qA} (hc : qcd k pc = some (4, a, 4, c, nx))  (w : qW k nx (x0 :: x1 :: x2 :: x3 :: qK x :: L) S (T, m, r) Q) : qW k pc (x0 :: x1 :: x2 :: x3 :: x4 :: L) (qK x :: S) (T, m, r) Q := by
  exact qW_step hc (by decide) (by simp [qstep]) w
theorem qr_inc4 {k pc : Nat} {L S : List qA} {T : List (Nat × Nat)} {m : Nat → Int → Int} {r : Nat → Int → Option Nat} {Q : qA → qM → Prop} {a : Int} {c : List Nat} {nx : Nat} {x : Int} {x0 x1 x2 x3 : qA} (hc : qcd k pc = some (5, a, 4, c, nx)) (h : qin (x + a)) (w : qW k nx (x0 :: x1 :: x2 :: x3 :: qI (x + a) :: L) S (T, m, r) Q) : qW k pc (x0 :: x1 :: x2 :: x3 :: qI x :: L) S (T, m, r) Q := by
  exact qW_step hc (by decide) (by simp [qstep]; exact h) w
theorem qr_is5 {k pc : Nat} {L S : List qA} {T : List (Nat × Nat)} {m : Nat → Int → Int} {r : Nat → Int → Option Nat} {Q : qA → qM → Prop} {a : Int} {c : List Nat} {nx : Nat} {x : Int} {x0 x1 x2 x3 x4 x5 : qA} (hc : qcd k pc = some (3, a, 5, c, nx))  (w : qW k nx (x0 :: x1 :: x2 :: x3 :: x4 :: qI x :: L) S (T, m, r) Q) : qW k pc (x0 :: x1 :: x2 :: x3 :: x4 :: x5 :: L) (qI x :: S) (T, m, r) Q := by
  exact qW_step hc (by decide) (by simp [qstep]) w
theorem qr_as5 {k pc : Nat} {L S : List qA} {T : List (Nat × Nat)} {m : Nat → Int → Int} {r : Nat → Int → Option Nat} {Q : qA → qM → Prop} {a : Int} {c : List Nat} {nx : Nat} {x : Nat} {x0 x1 x2 x3 x4 x5 : qA} (hc : qcd k pc = some (4, a, 5, c, nx))  (w : qW k nx (x0 :: x1 :: x2 :: x3 :: x4 :: qK x :: L) S (T, m, r) Q) : qW k pc (x0 :: x1 :: x2 :: x3 :: x4 :: x5 :: L) (qK x :: S) (T, m, r) Q := by
  exact qW_step hc (by decide) (by simp [qstep]) w
theorem qr_inc5 {k pc : Nat} {L S : List qA} {T : List (Nat × Nat)} {m : Nat → Int → Int} {r : Nat → Int → Option Nat} {Q : qA → qM → Prop} {a : Int} {c : List Nat} {nx : Nat} {x : Int} {x0 x1 x2 x3 x4 : qA} (hc : qcd k pc = some (5, a, 5, c, nx)) (h : qin (x + a)) (w : qW k nx (x0 :: x1 :: x2 :: x3 :: x4 :: qI (x + a) :: L) S (T, m, r) Q) : qW k pc (x0 :: x1 :: x2 :: x3 :: x4 :: qI x :: L) S (T, m, r) Q := by
  exact qW_step hc (by decide) (by simp [qstep]; exact h) w
theorem qr_is6 {k pc : Nat} {L S : List qA} {T : List (Nat × Nat)} {m : Nat → Int → Int} {r : Nat → Int → Option Nat} {Q : qA → qM → Prop} {a : Int} {c : List Nat} {nx : Nat} {x : Int} {x0 x1 x2 x3 x4 x5 x6 : qA} (hc : qcd k pc = some (3, a, 6, c, nx))  (w : qW k nx (x0 :: x1 :: x2 :: x3 :: x4 :: x5 :: qI x :: L) S (T, m, r) Q) : qW k pc (x0 :: x1 :: x2 :: x3 :: x4 :: x5 :: x6 :: L) (qI x :: S) (T, m, r) Q := by
  exact qW_step hc (by decide) (by simp [qstep]) w
theorem qr_as6 {k pc : Nat} {L S : List qA} {T : List (Nat × Nat)} {m : Nat → Int → Int} {r : Nat → Int → Option Nat} {Q : qA → qM → Prop} {a : Int} {c : List Nat} {nx : Nat} {x : Nat} {x0 x1 x2 x3 x4 x5 x6 : qA} (hc : qcd k pc = some (4, a, 6, c, nx))  (w : qW k nx (x0 :: x1 :: x2 :: x3 :: x4 :: x5 :: qK x :: L) S (T, m, r) Q) : qW k pc (x0 :: x1 :: x2 :: x3 :: x4 :: x5 :: x6 :: L) (qK x :: S) (T, m, r) Q := by
  exact qW_step hc (by decide) (by simp [qstep]) w
theorem qr_inc6 {k pc : Nat} {L S : List qA} {T : List (Nat × Nat)} {m : Nat → Int → Int} {r : Nat → Int → Option Nat} {Q : qA → qM → Prop} {a : Int} {c : List Nat} {nx : Nat} {x : Int} {x0 x1 x2 x3 x4 x5 : qA} (hc : qcd k pc = some (5, a, 6, c, nx)) (h : qin (x + a)) (w : qW k nx (x0 :: x1 :: x2 :: x3 :: x4 :: x5 :: qI (x + a) :: L) S (T, m, r) Q) : qW k pc (x0 :: x1 :: x2 :: x3 :: x4 :: x5 :: qI x :: L) S (T, m, r) Q := by
  exact qW_step hc (by decide) (by simp [qstep]; exact h) w
theorem qr_is7 {k pc : Nat} {L S : List qA} {T : List (Nat × Nat)} {m : Nat → Int → Int} {r : Nat → Int → Option Nat} {Q : qA → qM → Prop} {a : Int} {c : List Nat} {nx : Nat} {x : Int} {x0 x1 x2 x3 x4 x5 x6 x7 : qA} (hc : qcd k pc = some (3, a, 7, c, nx))  (w : qW k nx (x0 :: x1 :: x2 :: x3 :: x4 :: x5 :: x6 :: qI x :: L) S (T, m, r) Q) : qW k pc (x0 :: x1 :: x2 :: x3 :: x4 :: x5 :: x6 :: x7 :: L) (qI x :: S) (T, m, r) Q := by
  exact qW_step hc (by decide) (by simp [qstep]) w
theorem qr_as7 {k pc : Nat} {L S : List qA} {T : List (Nat × Nat)} {m : Nat → Int → Int} {r : Nat → Int → Option Nat} {Q : qA → qM → Prop} {a : Int} {c : List Nat} {nx : Nat} {x : Nat} {x0 x1 x2 x3 x4 x5 x6 x7 : qA} (hc : qcd k pc = some (4, a, 7, c, nx))  (w : qW k nx (x0 :: x1 :: x2 :: x3 :: x4 :: x5 :: x6 :: qK x :: L) S (T, m, r) Q) : qW k pc (x0 :: x1 :: x2 :: x3 :: x4 :: x5 :: x6 :: x7 :: L) (qK x :: S) (T, m, r) Q := by
  exact qW_step hc (by decide) (by simp [qstep]) w
theorem qr_inc7 {k pc : Nat} {L S : List qA} {T : List (Nat × Nat)} {m : Nat → Int → Int} {r : Nat → Int → Option Nat} {Q : qA → qM → Prop} {a : Int} {c : List Nat} {nx : Nat} {x : Int} {x0 x1 x2 x3 x4 x5 x6 : qA} (hc : qcd k pc = some (5, a, 7, c, nx)) (h : qin (x + a)) (w : qW k nx (x0 :: x1 :: x2 :: x3 :: x4 :: x5 :: x6 :: qI (x + a) :: L) S (T, m, r) Q) : qW k pc (x0 :: x1 :: x2 :: x3 :: x4 :: x5 :: x6 :: qI x :: L) S (T, m, r) Q := by
  exact qW_step hc (by decide) (by simp [qstep]; exact h) w
theorem qr_is8 {k pc : Nat} {L S : List qA} {T : List (Nat × Nat)} {m : Nat → Int → Int} {r : Nat → Int → Option Nat} {Q : qA → qM → Prop} {a : Int} {c : List Nat} {nx : Nat} {x : Int} {x0 x1 x2 x3 x4 x5 x6 x7 x8 : qA} (hc : qcd k pc = some (3, a, 8, c, nx))  (w : qW k nx (x0 :: x1 :: x2 :: x3 :: x4 :: x5 :: x6 :: x7 :: qI x :: L) S (T, m, r) Q) : qW k pc (x0 :: x1 :: x2 :: x3 :: x4 :: x5 :: x6 :: x7 :: x8 :: L) (qI x :: S) (T, m, r) Q := by
  exact qW_step hc (by decide) (by simp [qstep]) w
theorem qr_as8 {k pc : Nat} {L S : List qA} {T : List (Nat × Nat)} {m : Nat → Int → Int} {r : Nat → Int → Option Nat} {Q : qA → qM → Prop} {a : Int} {c : List Nat} {nx : Nat} {x : Nat} {x0 x1 x2 x3 x4 x5 x6 x7 x8 : qA} (hc : qcd k pc = some (4, a, 8, c, nx))  (w : qW k nx (x0 :: x1 :: x2 :: x3 :: x4 :: x5 :: x6 :: x7 :: qK x :: L) S (T, m, r) Q) : qW k pc (x0 :: x1 :: x2 :: x3 :: x4 :: x5 :: x6 :: x7 :: x8 :: L) (qK x :: S) (T, m, r) Q := by
  exact qW_step hc (by decide) (by simp [qstep]) w
theorem qr_inc8 {k pc : Nat} {L S : List qA} {T : List (Nat × Nat)} {m : Nat → Int → Int} {r : Nat → Int → Option Nat} {Q : qA → qM → Prop} {a : Int} {c : List Nat} {nx : Nat} {x : Int} {x0 x1 x2 x3 x4 x5 x6 x7 : qA} (hc : qcd k pc = some (5, a, 8, c, nx)) (h : qin (x + a)) (w : qW k nx (x0 :: x1 :: x2 :: x3 :: x4 :: x5 :: x6 :: x7 :: qI (x + a) :: L) S (T, m, r) Q) : qW k pc (x0 :: x1 :: x2 :: x3 :: x4 :: x5 :: x6 :: x7 :: qI x :: L) S (T, m, r) Q := by
  exact qW_step hc (by decide) (by simp [qstep]; exact h) w
theorem qr_is9 {k pc : Nat} {L S : List qA} {T : List (Nat × Nat)} {m : Nat → Int → Int} {r : Nat → Int → Option Nat} {Q : qA → qM → Prop} {a : Int} {c : List Nat} {nx : Nat} {x : Int} {x0 x1 x2 x3 x4 x5 x6 x7 x8 x9 : qA} (hc : qcd k pc = some (3, a, 9, c, nx))  (w : qW k nx (x0 :: x1 :: x2 :: x3 :: x4 :: x5 :: x6 :: x7 :: x8 :: qI x :: L) S (T, m, r) Q) : qW k pc (x0 :: x1 :: x2 :: x3 :: x4 :: x5 :: x6 :: x7 :: x8 :: x9 :: L) (qI x :: S) (T, m, r) Q := by
  exact qW_step hc (by decide) (by simp [qstep]) w
theorem qr_as9 {k pc : Nat} {L S : List qA} {T : List (Nat × Nat)} {m : Nat → Int → Int} {r : Nat → Int → Option Nat} {Q : qA → qM → Prop} {a : Int} {c : List Nat} {nx : Nat} {x : Nat} {x0 x1 x2 x3 x4 x5 x6 x7 x8 x9 : qA} (hc : qcd k pc = some (4, a, 9, c, nx))  (w : qW k nx (x0 :: x1 :: x2 :: x3 :: x4 :: x5 :: x6 :: x7 :: x8 :: qK x :: L) S (T, m, r) Q) : qW k pc (x0 :: x1 :: x2 :: x3 :: x4 :: x5 :: x6 :: x7 :: x8 :: x9 :: L) (qK x :: S) (T, m, r) Q := by
  exact qW_step hc (by decide) (by simp [qstep]) w
theorem qr_inc9 {k pc : Nat} {L S : List qA} {T : List (Nat × Nat)} {m : Nat → Int → Int} {r : Nat → Int → Option Nat} {Q : qA → qM → Prop} {a : Int} {c : List Nat} {nx : Nat} {x : Int} {x0 x1 x2 x3 x4 x5 x6 x7 x8 : qA} (hc : qcd k pc = some (5, a, 9, c, nx)) (h : qin (x + a)) (w : qW k nx (x0 :: x1 :: x2 :: x3 :: x4 :: x5 :: x6 :: x7 :: x8 :: qI (x + a) :: L) S (T, m, r) Q) : qW k pc (x0 :: x1 :: x2 :: x3 :: x4 :: x5 :: x6 :: x7 :: x8 :: qI x :: L) S (T, m, r) Q := by
  exact qW_step hc (by decide) (by simp [qstep]; exact h) w
theorem qr_is10 {k pc : Nat} {L S : List qA} {T : List (Nat × Nat)} {m : Nat → Int → Int} {r : Nat → Int → Option Nat} {Q : qA → qM → Prop} {a : Int} {c : List Nat} {nx : Nat} {x : Int} {x0 x1 x2 x3 x4 x5 x6 x7 x8 x9 x10 : qA} (hc : qcd k pc = some (3, a, 10, c, nx))  (w : qW k nx (x0 :: x1 :: x2 :: x3 :: x4 :: x5 :: x6 :: x7 :: x8 :: x9 :: qI x :: L) S (T, m, r) Q) : qW k pc (x0 :: x1 :: x2 :: x3 :: x4 :: x5 :: x6 :: x7 :: x8 :: x9 :: x10 :: L) (qI x :: S) (T, m, r) Q := by
  exact qW_step hc (by decide) (by simp [qstep]) w
theorem qr_as10 {k pc : Nat} {L S : List qA} {T : List (Nat × Nat)} {m : Nat → Int → Int} {r : Nat → Int → Option Nat} {Q : qA → qM → Prop} {a : Int} {c : List Nat} {nx : Nat} {x : Nat} {x0 x1 x2 x3 x4 x5 x6 x7 x8 x9 x10 : qA} (hc : qcd k pc = some (4, a, 10, c, nx))  (w : qW k nx (x0 :: x1 :: x2 :: x3 :: x4 :: x5 :: x6 :: x7 :: x8 :: x9 :: qK x :: L) S (T, m, r) Q) : qW k pc (x0 :: x1 :: x2 :: x3 :: x4 :: x5 :: x6 :: x7 :: x8 :: x9 :: x10 :: L) (qK x :: S) (T, m, r) Q := by
  exact qW_step hc (by decide) (by simp [qstep]) w
theorem qr_inc10 {k pc : Nat} {L S : List qA} {T : List (Nat × Nat)} {m : Nat → Int → Int} {r : Nat → Int → Option Nat} {Q : qA → qM → Prop} {a : Int} {c : List Nat} {nx : Nat} {x : Int} {x0 x1 x2 x3 x4 x5 x6 x7 x8 x9 : qA} (hc : qcd k pc = some (5, a, 10, c, nx)) (h : qin (x + a)) (w : qW k nx (x0 :: x1 :: x2 :: x3 :: x4 :: x5 :: x6 :: x7 :: x8 :: x9 :: qI (x + a) :: L) S (T, m, r) Q) : qW k pc (x0 :: x1 :: x2 :: x3 :: x4 :: x5 :: x6 :: x7 :: x8 :: x9 :: qI x :: L) S (T, m, r) Q := by
  exact qW_step hc (by decide) (by simp [qstep]; exact h) w
theorem qr_is11 {k pc : Nat} {L S : List qA} {T : List (Nat × Nat)} {m : Nat → Int → Int} {r : Nat → Int → Option Nat} {Q : qA → qM → Prop} {a : Int} {c : List Nat} {nx : Nat} {x : Int} {x0 x1 x2 x3 x4 x5 x6 x7 x8 x9 x10 x11 : qA} (hc : qcd k pc = some (3, a, 11, c, nx))  (w : qW k nx (x0 :: x1 :: x2 :: x3 :: x4 :: x5 :: x6 :: x7 :: x8 :: x9 :: x10 :: qI x :: L) S (T, m, r) Q) : qW k pc (x0 :: x1 :: x2 :: x3 :: x4 :: x5 :: x6 :: x7 :: x8 :: x9 :: x10 :: x11 :: L) (qI x :: S) (T, m, r) Q := by
  exact qW_step hc (by decide) (by simp [qstep]) w
theorem qr_as11 {k pc : Nat} {L S : List qA} {T : List (Nat × Nat)} {m : Nat → Int → Int} {r : Nat → Int → Option Nat} {Q : qA → qM → Prop} {a : Int} {c : List Nat} {nx : Nat} {x : Nat} {x0 x1 x2 x3 x4 x5 x6 x7 x8 x9 x10 x11 : qA} (hc : qcd k pc = some (4, a, 11, c, nx))  (w : qW k nx (x0 :: x1 :: x2 :: x3 :: x4 :: x5 :: x6 :: x7 :: x8 :: x9 :: x10 :: qK x :: L) S (T, m, r) Q) : qW k pc (x0 :: x1 :: x2 :: x3 :: x4 :: x5 :: x6 :: x7 :: x8 :: x9 :: x10 :: x11 :: L) (qK x :: S) (T, m, r) Q := by
  exact qW_step hc (by decide) (by simp [qstep]) w
theorem qr_inc11 {k pc : Nat} {L S : List qA} {T : List (Nat × Nat)} {m : Nat → Int → Int} {r : Nat → Int → Option Nat} {Q : qA → qM → Prop} {a : Int} {c : List Nat} {nx : Nat} {x : Int} {x0 x1 x2 x3 x4 x5 x6 x7 x8 x9 x10 : qA} (hc : qcd k pc = some (5, a, 11, c, nx)) (h : qin (x + a)) (w : qW k nx (x0 :: x1 :: x2 :: x3 :: x4 :: x5 :: x6 :: x7 :: x8 :: x9 :: x10 :: qI (x + a) :: L) S (T, m, r) Q) : qW k pc (x0 :: x1 :: x2 :: x3 :: x4 :: x5 :: x6 :: x7 :: x8 :: x9 :: x10 :: qI x :: L) S (T, m, r) Q := by
  exact qW_step hc (by decide) (by simp [qstep]; exact h) w
theorem qr_is12 {k pc : Nat} {L S : List qA} {T : List (Nat × Nat)} {m : Nat → Int → Int} {r : Nat → Int → Option Nat} {Q : qA → qM → Prop} {a : Int} {c : List Nat} {nx : Nat} {x : Int} {x0 x1 x2 x3 x4 x5 x6 x7 x8 x9 x10 x11 x12 : qA} (hc : qcd k pc = some (3, a, 12, c, nx))  (w : qW k nx (x0 :: x1 :: x2 :: x3 :: x4 :: x5 :: x6 :: x7 :: x8 :: x9 :: x10 :: x11 :: qI x :: L) S (T, m, r) Q) : qW k pc (x0 :: x1 :: x2 :: x3 :: x4 :: x5 :: x6 :: x7 :: x8 :: x9 :: x10 :: x11 :: x12 :: L) (qI x :: S) (T, m, r) Q := by
  exact qW_step hc (by decide) (by simp [qstep]) w
theorem qr_as12 {k pc : Nat} {L S : List qA} {T : List (Nat × Nat)} {m : Nat → Int → Int} {r : Nat → Int → Option Nat} {Q : qA → qM → Prop} {a : Int} {c : List Nat} {nx : Nat} {x : Nat} {x0 x1 x2 x3 x4 x5 x6 x7 x8 x9 x10 x11 x12 : qA} (hc : qcd k pc = some (4, a, 12, c, nx))  (w : qW k nx (x0 :: x1 :: x2 :: x3 :: x4 :: x5 :: x6 :: x7 :: x8 :: x9 :: x10 :: x11 :: qK x :: L) S (T, m, r) Q) : qW k pc (x0 :: x1 :: x2 :: x3 :: x4 :: x5 :: x6 :: x7 :: x8 :: x9 :: x10 :: x11 :: x12 :: L) (qK x :: S) (T, m, r) Q := by
  exact qW_step hc (by decide) (by simp [qstep]) w
theorem qr_inc12 {k pc : Nat} {L S : List qA} {T : List (Nat × Nat)} {m : Nat → Int → Int} {r : Nat → Int → Option Nat} {Q : qA → qM → Prop} {a : Int} {c : List Nat} {nx : Nat} {x : Int} {x0 x1 x2 x3 x4 x5 x6 x7 x8 x9 x10 x11 : qA} (hc : qcd k pc = some (5, a, 12, c, nx)) (h : qin (x + a)) (w : qW k nx (x0 :: x1 :: x2 :: x3 :: x4 :: x5 :: x6 :: x7 :: x8 :: x9 :: x10 :: x11 :: qI (x + a) :: L) S (T, m, r) Q) : qW k pc (x0 :: x1 :: x2 :: x3 :: x4 :: x5 :: x6 :: x7 :: x8 :: x9 :: x10 :: x11 :: qI x :: L) S (T, m, r) Q := by
  exact qW_step hc (by decide) (by simp [qstep]; exact h) w
theorem qr_add {k pc : Nat} {L S : List qA} {T : List (Nat × Nat)} {m : Nat → Int → Int} {r : Nat → Int → Option Nat} {Q : qA → qM → Prop} {a : Int} {b : Nat} {c : List Nat} {nx : Nat} {x y : Int} (hc : qcd k pc = some (6, a, b, c, nx)) (h : qin (x + y)) (w : qW k nx L (qI (x + y) :: S) (T, m, r) Q) : qW k pc L (qI y :: qI x :: S) (T, m, r) Q := by
  exact qW_step hc (by decide) (by simp only [qstep, if_pos h]) w
theorem qr_sub {k pc : Nat} {L S : List qA} {T : List (Nat × Nat)} {m : Nat → Int → Int} {r : Nat → Int → Option Nat} {Q : qA → qM → Prop} {a : Int} {b : Nat} {c : List Nat} {nx : Nat} {x y : Int} (hc : qcd k pc = some (7, a, b, c, nx)) (h : qin (x - y)) (w : qW k nx L (qI (x - y) :: S) (T, m, r) Q) : qW k pc L (qI y :: qI x :: S) (T, m, r) Q := by
  exact qW_step hc (by decide) (by simp only [qstep, if_pos h]) w
theorem qr_mul {k pc : Nat} {L S : List qA} {T : List (Nat × Nat)} {m : Nat → Int → Int} {r : Nat → Int → Option Nat} {Q : qA → qM → Prop} {a : Int} {b : Nat} {c : List Nat} {nx : Nat} {x y : Int} (hc : qcd k pc = some (8, a, b, c, nx)) (h : qin (x * y)) (w : qW k nx L (qI (x * y) :: S) (T, m, r) Q) : qW k pc L (qI y :: qI x :: S) (T, m, r) Q := by
  exact qW_step hc (by decide) (by simp only [qstep, if_pos h]) w
theorem qr_div {k pc : Nat} {L S : List qA} {T : List (Nat × Nat)} {m : Nat → Int → Int} {r : Nat → Int → Option Nat} {Q : qA → qM → Prop} {a : Int} {b : Nat} {c : List Nat} {nx : Nat} {x y : Int} (hc : qcd k pc = some (9, a, b, c, nx)) (h : 0 ≤ x ∧ 0 < y) (w : qW k nx L (qI (x / y) :: S) (T, m, r) Q) : qW k pc L (qI y :: qI x :: S) (T, m, r) Q := by
  exact qW_step hc (by decide) (by simp only [qstep, if_pos h]) w
theorem qr_rem {k pc : Nat} {L S : List qA} {T : List (Nat × Nat)} {m : Nat → Int → Int} {r : Nat → Int → Option Nat} {Q : qA → qM → Prop} {a : Int} {b : Nat} {c : List Nat} {nx : Nat} {x y : Int} (hc : qcd k pc = some (10, a, b, c, nx)) (h : 0 ≤ x ∧ 0 < y) (w : qW k nx L (qI (x % y) :: S) (T, m, r) Q) : qW k pc L (qI y :: qI x :: S) (T, m, r) Q := by
  exact qW_step hc (by decide) (by simp only [qstep, if_pos h]) w
theorem qr_dup {k pc : Nat} {L S : List qA} {T : List (Nat × Nat)} {m : Nat → Int → Int} {r : Nat → Int → Option Nat} {Q : qA → qM → Prop} {a : Int} {b : Nat} {c : List Nat} {nx : Nat} {x : qV} (hc : qcd k pc = some (12, a, b, c, nx)) (hx : qn1 (some x) = true := by rfl) (w : qW k nx L (some x :: some x :: S) (T, m, r) Q) : qW k pc L (some x :: S) (T, m, r) Q := by
  exact qW_step hc (by decide) (by simp only [qstep, if_pos hx]) w
theorem qr_dup2 {k pc : Nat} {L S : List qA} {T : List (Nat × Nat)} {m : Nat → Int → Int} {r : Nat → Int → Option Nat} {Q : qA → qM → Prop} {a : Int} {b : Nat} {c : List Nat} {nx : Nat} {x y : qV} (hc : qcd k pc = some (13, a, b, c, nx)) (hx : qn1 (some x) = true ∧ qn1 (some y) = true := by exact ⟨rfl, rfl⟩) (w : qW k nx L (some x :: some y :: some x :: some y :: S) (T, m, r) Q) : qW k pc L (some x :: some y :: S) (T, m, r) Q := by
  exact qW_step hc (by decide) (by simp only [qstep, if_pos hx]) w
theorem qr_pop {k pc : Nat} {L S : List qA} {T : List (Nat × Nat)} {m : Nat → Int → Int} {r : Nat → Int → Option Nat} {Q : qA → qM → Prop} {a : Int} {b : Nat} {c : List Nat} {nx : Nat} {x : qV} (hc : qcd k pc = some (14, a, b, c, nx)) (hx : qn1 (some x) = true := by rfl) (w : qW k nx L S (T, m, r) Q) : qW k pc L (some x :: S) (T, m, r) Q := by
  exact qW_step hc (by decide) (by simp only [qstep, if_pos hx]) w
theorem qr_op2 {k pc : Nat} {L S : List qA} {T : List (Nat × Nat)} {m : Nat → Int → Int} {r : Nat → Int → Option Nat} {Q : qA → qM → Prop} {a : Int} {b : Nat} {c : List Nat} {nx : Nat} {x y : Int} (hc : qcd k pc = some (11, a, b, c, nx))  (w : qW k nx L (qI (qop2 a x y) :: S) (T, m, r) Q) : qW k pc L (qI y :: qI x :: S) (T, m, r) Q := by
  exact qW_step hc (by decide) rfl w
theorem qr_i2l {k pc : Nat} {L S : List qA} {T : List (Nat × Nat)} {m : Nat → Int → Int} {r : Nat → Int → Option Nat} {Q : qA → qM → Prop} {b : Nat} {c : List Nat} {nx : Nat} {x : Int} (hc : qcd k pc = some (35, 0, b, c, nx))  (w : qW k nx L (qJ (Int32.ofInt x).toInt64 :: S) (T, m, r) Q) : qW k pc L (qI x :: S) (T, m, r) Q := by
  exact qW_step hc (by decide) rfl w
theorem qr_lcmp {k pc : Nat} {L S : List qA} {T : List (Nat × Nat)} {m : Nat → Int → Int} {r : Nat → Int → Option Nat} {Q : qA → qM → Prop} {b : Nat} {c : List Nat} {nx : Nat} {x : Int64} (hc : qcd k pc = some (35, 1, b, c, nx))  (w : qW k nx L (qI 0 :: S) (T, m, r) Q) : qW k pc L (qJ x :: qJ x :: S) (T, m, r) Q := by
  exact qW_step hc (by decide) (by simp [qstep]) w
theorem qr_ll {k pc : Nat} {L S : List qA} {T : List (Nat × Nat)} {m : Nat → Int → Int} {r : Nat → Int → Option Nat} {Q : qA → qM → Prop} {a : Int} {b : Nat} {c : List Nat} {nx : Nat} {x : Int64} (hc : qcd k pc = some (36, a, b, c, nx)) (hl : L[b]? = some (some (Sum.inr (Sum.inr x)))) (w : qW k nx L (qJ x :: S) (T, m, r) Q) : qW k pc L S (T, m, r) Q := by
  exact qW_step hc (by decide) (by simp only [qstep, hl]) w
theorem qr_ls1 {k pc : Nat} {L S : List qA} {T : List (Nat × Nat)} {m : Nat → Int → Int} {r : Nat → Int → Option Nat} {Q : qA → qM → Prop} {a : Int} {c : List Nat} {nx : Nat} {x : Int64} {x0 x1 x2 : qA} (hc : qcd k pc = some (37, a, 1, c, nx))  (w : qW k nx (x0 :: qJ x :: none :: L) S (T, m, r) Q) : qW k pc (x0 :: x1 :: x2 :: L) (qJ x :: S) (T, m, r) Q := by
  exact qW_step hc (by decide) (by simp [qstep]) w
theorem qr_ls6 {k pc : Nat} {L S : List qA} {T : List (Nat × Nat)} {m : Nat → Int → Int} {r : Nat → Int → Option Nat} {Q : qA → qM → Prop} {a : Int} {c : List Nat} {nx : Nat} {x : Int64} {x0 x1 x2 x3 x4 x5 x6 x7 : qA} (hc : qcd k pc = some (37, a, 6, c, nx))  (w : qW k nx (x0 :: x1 :: x2 :: x3 :: x4 :: x5 :: qJ x :: none :: L) S (T, m, r) Q) : qW k pc (x0 :: x1 :: x2 :: x3 :: x4 :: x5 :: x6 :: x7 :: L) (qJ x :: S) (T, m, r) Q := by
  exact qW_step hc (by decide) (by simp [qstep]) w
theorem qr_ls7 {k pc : Nat} {L S : List qA} {T : List (Nat × Nat)} {m : Nat → Int → Int} {r : Nat → Int → Option Nat} {Q : qA → qM → Prop} {a : Int} {c : List Nat} {nx : Nat} {x : Int64} {x0 x1 x2 x3 x4 x5 x6 x7 x8 : qA} (hc : qcd k pc = some (37, a, 7, c, nx))  (w : qW k nx (x0 :: x1 :: x2 :: x3 :: x4 :: x5 :: x6 :: qJ x :: none :: L) S (T, m, r) Q) : qW k pc (x0 :: x1 :: x2 :: x3 :: x4 :: x5 :: x6 :: x7 :: x8 :: L) (qJ x :: S) (T, m, r) Q := by
  exact qW_step hc (by decide) (by simp [qstep]) w
theorem qr_ladd {k pc : Nat} {L S : List qA} {T : List (Nat × Nat)} {m : Nat → Int → Int} {r : Nat → Int → Option Nat} {Q : qA → qM → Prop} {b : Nat} {c : List Nat} {nx : Nat} {x y : Int64} (hc : qcd k pc = some (38, 0, b, c, nx))  (w : qW k nx L (qJ (x + y) :: S) (T, m, r) Q) : qW k pc L (qJ y :: qJ x :: S) (T, m, r) Q := by
  exact qW_step hc (by decide) rfl w
theorem qr_lmul {k pc : Nat} {L S : List qA} {T : List (Nat × Nat)} {m : Nat → Int → Int} {r : Nat → Int → Option Nat} {Q : qA → qM → Prop} {b : Nat} {c : List Nat} {nx : Nat} {x y : Int64} (hc : qcd k pc = some (38, 1, b, c, nx))  (w : qW k nx L (qJ (x * y) :: S) (T, m, r) Q) : qW k pc L (qJ y :: qJ x :: S) (T, m, r) Q := by
  exact qW_step hc (by decide) rfl w
theorem qr_ldc2 {k pc : Nat} {L S : List qA} {T : List (Nat × Nat)} {m : Nat → Int → Int} {r : Nat → Int → Option Nat} {Q : qA → qM → Prop} {a : Int} {b : Nat} {c : List Nat} {nx : Nat}  (hc : qcd k pc = some (39, a, b, c, nx))  (w : qW k nx L (qJ (Int64.ofInt a) :: S) (T, m, r) Q) : qW k pc L S (T, m, r) Q := by
  exact qW_step hc (by decide) rfl w
theorem qr_goto {k pc : Nat} {L S : List qA} {T : List (Nat × Nat)} {m : Nat → Int → Int} {r : Nat → Int → Option Nat} {Q : qA → qM → Prop} {a : Int} {b : Nat} {c : List Nat} {nx : Nat}  (hc : qcd k pc = some (15, a, b, c, nx))  (w : qW k b L S (T, m, r) Q) : qW k pc L S (T, m, r) Q := by
  exact qW_step hc (by decide) rfl w
theorem qr_iceq {k pc : Nat} {L S : List qA} {T : List (Nat × Nat)} {m : Nat → Int → Int} {r : Nat → Int → Option Nat} {Q : qA → qM → Prop} {b : Nat} {c : List Nat} {nx : Nat} {x y : Int} (hc : qcd k pc = some (16, 0, b, c, nx)) (kt : x = y → qW k b L S (T, m, r) Q) (kf : x ≠ y → qW k nx L S (T, m, r) Q) : qW k pc L (qI y :: qI x :: S) (T, m, r) Q := by
  by_cases h : x = y
  · exact qW_step hc (by decide) (by simp [qstep, qcmp, h]) (kt h)
  · exact qW_step hc (by decide) (by simp [qstep, qcmp, h]) (kf (by omega))
theorem qr_ifeq {k pc : Nat} {L S : List qA} {T : List (Nat × Nat)} {m : Nat → Int → Int} {r : Nat → Int → Option Nat} {Q : qA → qM → Prop} {b : Nat} {c : List Nat} {nx : Nat} {x : Int} (hc : qcd k pc = some (17, 0, b, c, nx)) (kt : x = 0 → qW k b L S (T, m, r) Q) (kf : x ≠ 0 → qW k nx L S (T, m, r) Q) : qW k pc L (qI x :: S) (T, m, r) Q := by
  by_cases h : x = 0
  · exact qW_step hc (by decide) (by simp [qstep, qcmp, h]) (kt h)
  · exact qW_step hc (by decide) (by simp [qstep, qcmp, h]) (kf (by omega))
theorem qr_icne {k pc : Nat} {L S : List qA} {T : List (Nat × Nat)} {m : Nat → Int → Int} {r : Nat → Int → Option Nat} {Q : qA → qM → Prop} {b : Nat} {c : List Nat} {nx : Nat} {x y : Int} (hc : qcd k pc = some (16, 1, b, c, nx)) (kt : x ≠ y → qW k b L S (T, m, r) Q) (kf : x = y → qW k nx L S (T, m, r) Q) : qW k pc L (qI y :: qI x :: S) (T, m, r) Q := by
  by_cases h : x ≠ y
  · exact qW_step hc (by decide) (by simp [qstep, qcmp, h]) (kt h)
  · exact qW_step hc (by decide) (by simp [qstep, qcmp, h]) (kf (by omega))
theorem qr_ifne {k pc : Nat} {L S : List qA} {T : List (Nat × Nat)} {m : Nat → Int → Int} {r : Nat → Int → Option Nat} {Q : qA → qM → Prop} {b : Nat} {c : List Nat} {nx : Nat} {x : Int} (hc : qcd k pc = some (17, 1, b, c, nx)) (kt : x ≠ 0 → qW k b L S (T, m, r) Q) (kf : x = 0 → qW k nx L S (T, m, r) Q) : qW k pc L (qI x :: S) (T, m, r) Q := by
  by_cases h : x ≠ 0
  · exact qW_step hc (by decide) (by simp [qstep, qcmp, h]) (kt h)
  · exact qW_step hc (by decide) (by simp [qstep, qcmp, h]) (kf (by omega))
theorem qr_iclt {k pc : Nat} {L S : List qA} {T : List (Nat × Nat)} {m : Nat → Int → Int} {r : Nat → Int → Option Nat} {Q : qA → qM → Prop} {b : Nat} {c : List Nat} {nx : Nat} {x y : Int} (hc : qcd k pc = some (16, 2, b, c, nx)) (kt : x < y → qW k b L S (T, m, r) Q) (kf : y ≤ x → qW k nx L S (T, m, r) Q) : qW k pc L (qI y :: qI x :: S) (T, m, r) Q := by
  by_cases h : x < y
  · exact qW_step hc (by decide) (by simp [qstep, qcmp, h]) (kt h)
  · exact qW_step hc (by decide) (by simp [qstep, qcmp, h]) (kf (by omega))
theorem qr_iflt {k pc : Nat} {L S : List qA} {T : List (Nat × Nat)} {m : Nat → Int → Int} {r : Nat → Int → Option Nat} {Q : qA → qM → Prop} {b : Nat} {c : List Nat} {nx : Nat} {x : Int} (hc : qcd k pc = some (17, 2, b, c, nx)) (kt : x < 0 → qW k b L S (T, m, r) Q) (kf : 0 ≤ x → qW k nx L S (T, m, r) Q) : qW k pc L (qI x :: S) (T, m, r) Q := by
  by_cases h : x < 0
  · exact qW_step hc (by decide) (by simp [qstep, qcmp, h]) (kt h)
  · exact qW_step hc (by decide) (by simp [qstep, qcmp, h]) (kf (by omega))
theorem qr_icge {k pc : Nat} {L S : List qA} {T : List (Nat × Nat)} {m : Nat → Int → Int} {r : Nat → Int → Option Nat} {Q : qA → qM → Prop} {b : Nat} {c : List Nat} {nx : Nat} {x y : Int} (hc : qcd k pc = some (16, 3, b, c, nx)) (kt : y ≤ x → qW k b L S (T, m, r) Q) (kf : x < y → qW k nx L S (T, m, r) Q) : qW k pc L (qI y :: qI x :: S) (T, m, r) Q := by
  by_cases h : y ≤ x
  · exact qW_step hc (by decide) (by simp [qstep, qcmp, h]) (kt h)
  · exact qW_step hc (by decide) (by simp [qstep, qcmp, h]) (kf (by omega))
theorem qr_ifge {k pc : Nat} {L S : List qA} {T : List (Nat × Nat)} {m : Nat → Int → Int} {r : Nat → Int → Option Nat} {Q : qA → qM → Prop} {b : Nat} {c : List Nat} {nx : Nat} {x : Int} (hc : qcd k pc = some (17, 3, b, c, nx)) (kt : 0 ≤ x → qW k b L S (T, m, r) Q) (kf : x < 0 → qW k nx L S (T, m, r) Q) : qW k pc L (qI x :: S) (T, m, r) Q := by
  by_cases h : 0 ≤ x
  · exact qW_step hc (by decide) (by simp [qstep, qcmp, h]) (kt h)
  · exact qW_step hc (by decide) (by simp [qstep, qcmp, h]) (kf (by omega))
theorem qr_icgt {k pc : Nat} {L S : List qA} {T : List (Nat × Nat)} {m : Nat → Int → Int} {r : Nat → Int → Option Nat} {Q : qA → qM → Prop} {b : Nat} {c : List Nat} {nx : Nat} {x y : Int} (hc : qcd k pc = some (16, 4, b, c, nx)) (kt : y < x → qW k b L S (T, m, r) Q) (kf : x ≤ y → qW k nx L S (T, m, r) Q) : qW k pc L (qI y :: qI x :: S) (T, m, r) Q := by
  by_cases h : y < x
  · exact qW_step hc (by decide) (by simp [qstep, qcmp, h]) (kt h)
  · exact qW_step hc (by decide) (by simp [qstep, qcmp, h]) (kf (by omega))
theorem qr_ifgt {k pc : Nat} {L S : List qA} {T : List (Nat × Nat)} {m : Nat → Int → Int} {r : Nat → Int → Option Nat} {Q : qA → qM → Prop} {b : Nat} {c : List Nat} {nx : Nat} {x : Int} (hc : qcd k pc = some (17, 4, b, c, nx)) (kt : 0 < x → qW k b L S (T, m, r) Q) (kf : x ≤ 0 → qW k nx L S (T, m, r) Q) : qW k pc L (qI x :: S) (T, m, r) Q := by
  by_cases h : 0 < x
  · exact qW_step hc (by decide) (by simp [qstep, qcmp, h]) (kt h)
  · exact qW_step hc (by decide) (by simp [qstep, qcmp, h]) (kf (by omega))
theorem qr_icle {k pc : Nat} {L S : List qA} {T : List (Nat × Nat)} {m : Nat → Int → Int} {r : Nat → Int → Option Nat} {Q : qA → qM → Prop} {b : Nat} {c : List Nat} {nx : Nat} {x y : Int} (hc : qcd k pc = some (16, 5, b, c, nx)) (kt : x ≤ y → qW k b L S (T, m, r) Q) (kf : y < x → qW k nx L S (T, m, r) Q) : qW k pc L (qI y :: qI x :: S) (T, m, r) Q := by
  by_cases h : x ≤ y
  · exact qW_step hc (by decide) (by simp [qstep, qcmp, h]) (kt h)
  · exact qW_step hc (by decide) (by simp [qstep, qcmp, h]) (kf (by omega))
theorem qr_ifle {k pc : Nat} {L S : List qA} {T : List (Nat × Nat)} {m : Nat → Int → Int} {r : Nat → Int → Option Nat} {Q : qA → qM → Prop} {b : Nat} {c : List Nat} {nx : Nat} {x : Int} (hc : qcd k pc = some (17, 5, b, c, nx)) (kt : x ≤ 0 → qW k b L S (T, m, r) Q) (kf : 0 < x → qW k nx L S (T, m, r) Q) : qW k pc L (qI x :: S) (T, m, r) Q := by
  by_cases h : x ≤ 0
  · exact qW_step hc (by decide) (by simp [qstep, qcmp, h]) (kt h)
  · exact qW_step hc (by decide) (by simp [qstep, qcmp, h]) (kf (by omega))
def qbi (b : Bool) : Int := if b = true then 1 else 0
theorem qbi_t : qbi true = 1 := rfl
theorem qbi_f : qbi false = 0 := rfl
theorem qr_ifeqB {k pc : Nat} {L S : List qA} {T : List (Nat × Nat)} {m : Nat → Int → Int} {r : Nat → Int → Option Nat} {Q : qA → qM → Prop} {b : Nat} {c : List Nat} {nx : Nat} {x : Bool} (hc : qcd k pc = some (17, 0, b, c, nx)) (kt : x = false → qW k b L S (T, m, r) Q) (kf : x = true → qW k nx L S (T, m, r) Q) : qW k pc L (qI (qbi x) :: S) (T, m, r) Q := by
  refine qr_ifeq hc (fun h => kt ?_) (fun h => kf ?_)
  · cases x <;> first | rfl | exact absurd h (by decide)
  · cases x <;> first | rfl | exact absurd rfl h
theorem qr_ifneB {k pc : Nat} {L S : List qA} {T : List (Nat × Nat)} {m : Nat → Int → Int} {r : Nat → Int → Option Nat} {Q : qA → qM → Prop} {b : Nat} {c : List Nat} {nx : Nat} {x : Bool} (hc : qcd k pc = some (17, 1, b, c, nx)) (kt : x = true → qW k b L S (T, m, r) Q) (kf : x = false → qW k nx L S (T, m, r) Q) : qW k pc L (qI (qbi x) :: S) (T, m, r) Q := by
  refine qr_ifne hc (fun h => kt ?_) (fun h => kf ?_)
  · cases x <;> first | rfl | exact absurd rfl h
  · cases x <;> first | rfl | exact absurd h (by decide)
theorem qr_nul {k pc : Nat} {L S : List qA} {T : List (Nat × Nat)} {m : Nat → Int → Int} {r : Nat → Int → Option Nat} {Q : qA → qM → Prop} {a : Int} {b : Nat} {c : List Nat} {nx : Nat} {x : Nat} (hc : qcd k pc = some (18, a, b, c, nx))  (w : qW k nx L S (T, m, r) Q) : qW k pc L (qK x :: S) (T, m, r) Q := by
  exact qW_step hc (by decide) rfl w
theorem qr_nnul {k pc : Nat} {L S : List qA} {T : List (Nat × Nat)} {m : Nat → Int → Int} {r : Nat → Int → Option Nat} {Q : qA → qM → Prop} {a : Int} {b : Nat} {c : List Nat} {nx : Nat} {x : Nat} (hc : qcd k pc = some (19, a, b, c, nx))  (w : qW k b L S (T, m, r) Q) : qW k pc L (qK x :: S) (T, m, r) Q := by
  exact qW_step hc (by decide) rfl w
theorem qr_swin {k pc : Nat} {L S : List qA} {T : List (Nat × Nat)} {m : Nat → Int → Int} {r : Nat → Int → Option Nat} {Q : qA → qM → Prop} {a : Int} {b : Nat} {c : List Nat} {nx : Nat} {x : Int} {t : Nat} (hc : qcd k pc = some (20, a, b, c, nx)) (ha : a ≤ x) (h : c[(x - a).toNat]? = some t) (w : qW k t L S (T, m, r) Q) : qW k pc L (qI x :: S) (T, m, r) Q := by
  have h1 := (List.getElem?_eq_some_iff.mp h).1
  have h2 : a ≤ x ∧ x < a + c.length := ⟨ha, by omega⟩
  exact qW_step hc (by decide) (by simp only [qstep, if_pos h2, List.getD_eq_getElem?_getD, h, Option.getD_some]) w
theorem qr_swout {k pc : Nat} {L S : List qA} {T : List (Nat × Nat)} {m : Nat → Int → Int} {r : Nat → Int → Option Nat} {Q : qA → qM → Prop} {a : Int} {b : Nat} {c : List Nat} {nx : Nat} {x : Int} (hc : qcd k pc = some (20, a, b, c, nx)) (h : x < a ∨ a + c.length ≤ x) (w : qW k b L S (T, m, r) Q) : qW k pc L (qI x :: S) (T, m, r) Q := by
  have h2 : ¬ (a ≤ x ∧ x < a + c.length) := by omega
  exact qW_step hc (by decide) (by simp only [qstep, if_neg h2]) w
theorem qr_gi {k pc : Nat} {L S : List qA} {T : List (Nat × Nat)} {m : Nat → Int → Int} {r : Nat → Int → Option Nat} {Q : qA → qM → Prop} {a : Int} {b : Nat} {nx : Nat} {z ci : Nat} (hc : qcd k pc = some (21, a, b, [ci], nx)) (hk : T[z]? = some (0, ci)) (hf : 0 ≤ a ∧ (qfs ci)[a.toNat]? = some false := by decide) (w : qW k nx L (qI (m z a) :: S) (T, m, r) Q) : qW k pc L (qK z :: S) (T, m, r) Q := by
  exact qW_step hc (by decide) (by simp only [qstep, List.headD_cons, hk, hf, and_self, if_true]) w
theorem qr_gr {k pc : Nat} {L S : List qA} {T : List (Nat × Nat)} {m : Nat → Int → Int} {r : Nat → Int → Option Nat} {Q : qA → qM → Prop} {a : Int} {b : Nat} {nx : Nat} {z ci y : Nat} (hc : qcd k pc = some (22, a, b, [ci], nx)) (hk : T[z]? = some (0, ci)) (hf : 0 ≤ a ∧ (qfs ci)[a.toNat]? = some true := by decide) (hr : r z a = some y) (w : qW k nx L (qK y :: S) (T, m, r) Q) : qW k pc L (qK z :: S) (T, m, r) Q := by
  exact qW_step hc (by decide) (by simp only [qstep, List.headD_cons, hk, hf, hr, and_self, if_true]) w
theorem qr_pi {k pc : Nat} {L S : List qA} {T : List (Nat × Nat)} {m : Nat → Int → Int} {r : Nat → Int → Option Nat} {Q : qA → qM → Prop} {a : Int} {b : Nat} {nx : Nat} {z ci : Nat} {x : Int} (hc : qcd k pc = some (23, a, b, [ci], nx)) (hk : T[z]? = some (0, ci)) (hf : 0 ≤ a ∧ (qfs ci)[a.toNat]? = some false := by decide) (w : qW k nx L S (T, qup m z a x, r) Q) : qW k pc L (qI x :: qK z :: S) (T, m, r) Q := by
  exact qW_step hc (by decide) (by simp only [qstep, List.headD_cons, hk, hf, and_self, if_true]) w
theorem qr_pr {k pc : Nat} {L S : List qA} {T : List (Nat × Nat)} {m : Nat → Int → Int} {r : Nat → Int → Option Nat} {Q : qA → qM → Prop} {a : Int} {b : Nat} {nx : Nat} {z ci y : Nat} (hc : qcd k pc = some (24, a, b, [ci], nx)) (hk : T[z]? = some (0, ci)) (hf : 0 ≤ a ∧ (qfs ci)[a.toNat]? = some true := by decide) (w : qW k nx L S (T, m, qup r z a (some y)) Q) : qW k pc L (qK y :: qK z :: S) (T, m, r) Q := by
  exact qW_step hc (by decide) (by simp only [qstep, List.headD_cons, hk, hf, and_self, if_true]) w
theorem qr_ia {k pc : Nat} {L S : List qA} {T : List (Nat × Nat)} {m : Nat → Int → Int} {r : Nat → Int → Option Nat} {Q : qA → qM → Prop} {a : Int} {b : Nat} {c : List Nat} {nx : Nat} {z n : Nat} {i : Int} (hc : qcd k pc = some (25, a, b, c, nx)) (hk : T[z]? = some (1, n)) (h : 0 ≤ i ∧ i < n) (w : qW k nx L (qI (m z i) :: S) (T, m, r) Q) : qW k pc L (qI i :: qK z :: S) (T, m, r) Q := by
  exact qW_step hc (by decide) (by simp only [qstep, hk, if_pos h]) w
theorem qr_ias {k pc : Nat} {L S : List qA} {T : List (Nat × Nat)} {m : Nat → Int → Int} {r : Nat → Int → Option Nat} {Q : qA → qM → Prop} {a : Int} {b : Nat} {c : List Nat} {nx : Nat} {z n : Nat} {i x : Int} (hc : qcd k pc = some (26, a, b, c, nx)) (hk : T[z]? = some (1, n)) (h : 0 ≤ i ∧ i < n) (w : qW k nx L S (T, qup m z i x, r) Q) : qW k pc L (qI x :: qI i :: qK z :: S) (T, m, r) Q := by
  exact qW_step hc (by decide) (by simp only [qstep, hk, if_pos h]) w
theorem qr_aa {k pc : Nat} {L S : List qA} {T : List (Nat × Nat)} {m : Nat → Int → Int} {r : Nat → Int → Option Nat} {Q : qA → qM → Prop} {a : Int} {b : Nat} {c : List Nat} {nx : Nat} {z ci n y : Nat} {i : Int} (hc : qcd k pc = some (27, a, b, c, nx)) (hk : T[z]? = some (ci + 2, n)) (h : 0 ≤ i ∧ i < n) (hr : r z i = some y) (w : qW k nx L (qK y :: S) (T, m, r) Q) : qW k pc L (qI i :: qK z :: S) (T, m, r) Q := by
  exact qW_step hc (by decide) (by simp only [qstep, hk, if_pos h, hr]) w
theorem qr_aas {k pc : Nat} {L S : List qA} {T : List (Nat × Nat)} {m : Nat → Int → Int} {r : Nat → Int → Option Nat} {Q : qA → qM → Prop} {a : Int} {b : Nat} {c : List Nat} {nx : Nat} {z ci n y : Nat} {i : Int} (hc : qcd k pc = some (28, a, b, c, nx)) (hk : T[z]? = some (ci + 2, n)) (h : 0 ≤ i ∧ i < n ∧ T[y]? = some (0, ci)) (w : qW k nx L S (T, m, qup r z i (some y)) Q) : qW k pc L (qK y :: qI i :: qK z :: S) (T, m, r) Q := by
  exact qW_step hc (by decide) (by simp only [qstep, hk, if_pos h]) w
theorem qr_len {k pc : Nat} {L S : List qA} {T : List (Nat × Nat)} {m : Nat → Int → Int} {r : Nat → Int → Option Nat} {Q : qA → qM → Prop} {a : Int} {b : Nat} {c : List Nat} {nx : Nat} {z t n : Nat} (hc : qcd k pc = some (29, a, b, c, nx)) (hk : T[z]? = some (t + 1, n)) (w : qW k nx L (qI n :: S) (T, m, r) Q) : qW k pc L (qK z :: S) (T, m, r) Q := by
  exact qW_step hc (by decide) (by simp only [qstep, hk]) w
theorem qhn {b n l : Nat} (h : (Nat.ble b n && Nat.ble n (b + 4) && Nat.ble b l) = true) : b ≤ n ∧ n ≤ b + 4 ∧ b ≤ l := by
  simp only [Bool.and_eq_true] at h
  exact ⟨Nat.le_of_ble_eq_true h.1.1, Nat.le_of_ble_eq_true h.1.2, Nat.le_of_ble_eq_true h.2⟩
/-- a call of a method that answers a value and keeps the memory -/
theorem qr_callP {k pc : Nat} {L S : List qA} {T : List (Nat × Nat)} {m : Nat → Int → Int} {r : Nat → Int → Option Nat} {Q : qA → qM → Prop} {a : Int} {b : Nat} {c : List Nat} {nx : Nat} {L0 : List qA} {v : qV} (hc : qcd k pc = some (40, a, b, c, nx)) (h1 : qP b L0 (T, m, r) (some v)) (hr : qrcv b (S.take (qNa b)).reverse (T, m, r) = true) (hn : (Nat.ble (qNa b) S.length && Nat.ble S.length (qNa b + 4) && Nat.ble (qNa b) (qNl b)) = true := by rfl) (hL : qent b (S.take (qNa b)).reverse = L0 := by rfl) (ht : qRt b ≠ 0 := by decide)
    (w : qW k nx L (some v :: S.drop (qNa b)) (T, m, r) Q) : qW k pc L S (T, m, r) Q := by
  refine qW_call hc (qhn hn) hr hL h1 (fun x σ' hx => ?_)
  obtain ⟨rfl, rfl⟩ := hx
  rw [if_neg ht]
  exact w
/-- a call of a method that answers something -/
theorem qr_callA {k pc : Nat} {L S : List qA} {T : List (Nat × Nat)} {m : Nat → Int → Int} {r : Nat → Int → Option Nat} {Q : qA → qM → Prop} {a : Int} {b : Nat} {c : List Nat} {nx : Nat} {L0 : List qA} {Q1 : qA → qM → Prop} (hc : qcd k pc = some (40, a, b, c, nx)) (h1 : qW b 0 L0 [] (T, m, r) Q1) (hr : qrcv b (S.take (qNa b)).reverse (T, m, r) = true) (hn : (Nat.ble (qNa b) S.length && Nat.ble S.length (qNa b + 4) && Nat.ble (qNa b) (qNl b)) = true := by rfl) (hL : qent b (S.take (qNa b)).reverse = L0 := by rfl) (ht : qRt b ≠ 0 := by decide)
    (w : ∀ x σ', Q1 x σ' → qW k nx L (x :: S.drop (qNa b)) σ' Q) : qW k pc L S (T, m, r) Q := by
  refine qW_call hc (qhn hn) hr hL h1 (fun x σ' hx => ?_)
  rw [if_neg ht]
  exact w x σ' hx
/-- a call of a method that answers nothing -/
theorem qr_callV {k pc : Nat} {L S : List qA} {T : List (Nat × Nat)} {m : Nat → Int → Int} {r : Nat → Int → Option Nat} {Q : qA → qM → Prop} {a : Int} {b : Nat} {c : List Nat} {nx : Nat} {L0 : List qA} {Q1 : qA → qM → Prop} (hc : qcd k pc = some (40, a, b, c, nx)) (h1 : qW b 0 L0 [] (T, m, r) Q1) (hr : qrcv b (S.take (qNa b)).reverse (T, m, r) = true) (hn : (Nat.ble (qNa b) S.length && Nat.ble S.length (qNa b + 4) && Nat.ble (qNa b) (qNl b)) = true := by rfl) (hL : qent b (S.take (qNa b)).reverse = L0 := by rfl) (ht : qRt b = 0 := by decide)
    (w : ∀ x σ', Q1 x σ' → qW k nx L (S.drop (qNa b)) σ' Q) : qW k pc L S (T, m, r) Q := by
  refine qW_call hc (qhn hn) hr hL h1 (fun x σ' hx => ?_)
  rw [if_pos ht]
  exact w x σ' hx
theorem qrcv1 {b z ci : Nat} {as : List qA} {T : List (Nat × Nat)} {m : Nat → Int → Int} {r : Nat → Int → Option Nat} (h : T[z]? = some (0, ci)) (hk : qKi b = 1 := by rfl) (hc : qCl b = ci := by rfl) (hl : qnol as = true := by rfl) : qrcv b (qK z :: as) (T, m, r) = true := by
  unfold qrcv
  rw [hk]
  have h1 : qnol (qK z :: as) = true := hl
  rw [h1]
  simp only [hc, h, decide_true, Bool.true_and]
