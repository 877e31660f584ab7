/-! The abstract machine: values, memory, a step, a run. Memory: the kinds of the cells (0: an object of a class; 1: ints, and how many; c+2: references to class c, and how many), whole numbers by cell and place, references by cell and place. -/
abbrev qV : Type := Int ⊕ Nat ⊕ Int64
abbrev qA : Type := Option qV
abbrev qI (x : Int) : qA := some (Sum.inl x)
abbrev qK (k : Nat) : qA := some (Sum.inr (Sum.inl k))
abbrev qJ (x : Int64) : qA := some (Sum.inr (Sum.inr x))
/-- not a long -/
def qn1 : qA → Bool
  | some (.inr (.inr _)) => false
  | _ => true
def qnol (l : List qA) : Bool := l.all qn1
/-- operations of numbers that wrap around or look at bits -/
def qop2 (a : Int) (x y : Int) : Int :=
  let p := Int32.ofInt x
  let q := Int32.ofInt y
  (if a = 0 then p &&& q else if a = 1 then p ||| q else if a = 2 then p <<< (q &&& 31) else if a = 3 then p >>> (q &&& 31) else if a = 4 then p + q else p * q).toInt
abbrev qM : Type := List (Nat × Nat) × (Nat → Int → Int) × (Nat → Int → Option Nat)
abbrev qin (x : Int) : Prop := -2147483648 ≤ x ∧ x ≤ 2147483647
def qup {α : Type} (m : Nat → Int → α) (k : Nat) (i : Int) (v : α) : Nat → Int → α := fun a j => if a = k then (if j = i then v else m a j) else m a j
def qrow {α : Type} (m : Nat → Int → α) (k : Nat) (v : α) : Nat → Int → α := fun a j => if a = k then v else m a j
def qcmp (a : Int) (x y : Int) : Bool := if a = 0 then decide (x = y) else if a = 1 then decide (x ≠ y) else if a = 2 then decide (x < y) else if a = 3 then decide (y ≤ x) else if a = 4 then decide (y < x) else decide (x ≤ y)
def qold (σ : qM) (kd : Nat × Nat) : qM := (σ.1 ++ [kd], qrow σ.2.1 σ.1.length 0, qrow σ.2.2 σ.1.length none)
def qstep (op : Nat) (a : Int) (b : Nat) (c : List Nat) (nx : Nat) (pc : Nat) (L S : List qA) (σ : qM) : Option (Nat × List qA × List qA × qM) :=
  match op with
  | 0 => if qin a then some (nx, L, qI a :: S, σ) else none
  | 1 => match L[b]? with
    | some (some (.inl x)) => some (nx, L, qI x :: S, σ)
    | _ => none
  | 2 => match L[b]? with
    | some (some (.inr (.inl x))) => some (nx, L, qK x :: S, σ)
    | _ => none
  | 3 => match S with
    | some (.inl x) :: S' => if b < L.length then some (nx, L.set b (qI x), S', σ) else none
    | _ => none
  | 4 => match S with
    | some (.inr (.inl x)) :: S' => if b < L.length then some (nx, L.set b (qK x), S', σ) else none
    | _ => none
  | 5 => match L[b]? with
    | some (some (.inl x)) => if qin (x + a) then some (nx, L.set b (qI (x + a)), S, σ) else none
    | _ => none
  | 6 => match S with
    | some (.inl y) :: some (.inl x) :: S' => if qin (x + y) then some (nx, L, qI (x + y) :: S', σ) else none
    | _ => none
  | 7 => match S with
    | some (.inl y) :: some (.inl x) :: S' => if qin (x - y) then some (nx, L, qI (x - y) :: S', σ) else none
    | _ => none
  | 8 => match S with
    | some (.inl y) :: some (.inl x) :: S' => if qin (x * y) then some (nx, L, qI (x * y) :: S', σ) else none
    | _ => none
  | 9 => match S with
    | some (.inl y) :: some (.inl x) :: S' => if 0 ≤ x ∧ 0 < y then some (nx, L, qI (x / y) :: S', σ) else none
    | _ => none
  | 10 => match S with
    | some (.inl y) :: some (.inl x) :: S' => if 0 ≤ x ∧ 0 < y then some (nx, L, qI (x % y) :: S', σ) else none
    | _ => none
  | 11 => match S with
    | some (.inl y) :: some (.inl x) :: S' => some (nx, L, qI (qop2 a x y) :: S', σ)
    | _ => none
  | 12 => match S with
    | some x :: S' => if qn1 (some x) = true then some (nx, L, some x :: some x :: S', σ) else none
    | _ => none
  | 13 => match S with
    | some x :: some y :: S' => if qn1 (some x) = true ∧ qn1 (some y) = true then some (nx, L, some x :: some y :: some x :: some y :: S', σ) else none
    | _ => none
  | 14 => match S with
    | some x :: S' => if qn1 (some x) = true then some (nx, L, S', σ) else none
    | _ => none
  | 15 => some (b, L, S, σ)
  | 16 => match S with
    | some (.inl y) :: some (.inl x) :: S' => some (if qcmp a x y = true then b else nx, L, S', σ)
    | _ => none
  | 17 => match S with
    | some (.inl x) :: S' => some (if qcmp a x 0 = true then b else nx, L, S', σ)
    | _ => none
  | 18 => match S with
    | some (.inr (.inl _)) :: S' => some (nx, L, S', σ)
    | _ => none
  | 19 => match S with
    | some (.inr (.inl _)) :: S' => some (b, L, S', σ)
    | _ => none
  | 20 => match S with
    | some (.inl x) :: S' => some (if a ≤ x ∧ x < a + c.length then c.getD (x - a).toNat 0 else b, L, S', σ)
    | _ => none
  | 21 => match S with
    | some (.inr (.inl k)) :: S' => if 0 ≤ a ∧ σ.1[k]? = some (0, c.headD 0) ∧ (qfs (c.headD 0))[a.toNat]? = some false then some (nx, L, qI (σ.2.1 k a) :: S', σ) else none
    | _ => none
  | 22 => match S with
    | some (.inr (.inl k)) :: S' => if 0 ≤ a ∧ σ.1[k]? = some (0, c.headD 0) ∧ (qfs (c.headD 0))[a.toNat]? = some true then (match σ.2.2 k a with
      | some z => some (nx, L, qK z :: S', σ)
      | none => none) else none
    | _ => none
  | 23 => match S with
    | some (.inl x) :: some (.inr (.inl k)) :: S' => if 0 ≤ a ∧ σ.1[k]? = some (0, c.headD 0) ∧ (qfs (c.headD 0))[a.toNat]? = some false then some (nx, L, S', (σ.1, qup σ.2.1 k a x, σ.2.2)) else none
    | _ => none
  | 24 => match S with
    | some (.inr (.inl x)) :: some (.inr (.inl k)) :: S' => if 0 ≤ a ∧ σ.1[k]? = some (0, c.headD 0) ∧ (qfs (c.headD 0))[a.toNat]? = some true then some (nx, L, S', (σ.1, σ.2.1, qup σ.2.2 k a (some x))) else none
    | _ => none
  | 25 => match S with
    | some (.inl i) :: some (.inr (.inl k)) :: S' => match σ.1[k]? with
      | some (1, n) => if 0 ≤ i ∧ i < n then some (nx, L, qI (σ.2.1 k i) :: S', σ) else none
      | _ => none
    | _ => none
  | 26 => match S with
    | some (.inl x) :: some (.inl i) :: some (.inr (.inl k)) :: S' => match σ.1[k]? with
      | some (1, n) => if 0 ≤ i ∧ i < n then some (nx, L, S', (σ.1, qup σ.2.1 k i x, σ.2.2)) else none
      | _ => none
    | _ => none
  | 27 => match S with
    | some (.inl i) :: some (.inr (.inl k)) :: S' => match σ.1[k]? with
      | some (_ + 2, n) => if 0 ≤ i ∧ i < n then (match σ.2.2 k i with
        | some z => some (nx, L, qK z :: S', σ)
        | none => none) else none
      | _ => none
    | _ => none
  | 28 => match S with
    | some (.inr (.inl x)) :: some (.inl i) :: some (.inr (.inl k)) :: S' => match σ.1[k]? with
      | some (ci + 2, n) => if 0 ≤ i ∧ i < n ∧ σ.1[x]? = some (0, ci) then some (nx, L, S', (σ.1, σ.2.1, qup σ.2.2 k i (some x))) else none
      | _ => none
    | _ => none
  | 29 => match S with
    | some (.inr (.inl k)) :: S' => match σ.1[k]? with
      | some (_ + 1, n) => some (nx, L, qI n :: S', σ)
      | _ => none
    | _ => none
  | 30 => match S with
    | some (.inl n) :: S' => if 0 ≤ n ∧ n ≤ 100000 then some (nx, L, qK σ.1.length :: S', qold σ (1, n.toNat)) else none
    | _ => none
  | 31 => match S with
    | some (.inl n) :: S' => if 0 ≤ n ∧ n ≤ 100000 then some (nx, L, qK σ.1.length :: S', qold σ (c.headD 0 + 2, n.toNat)) else none
    | _ => none
  | 32 => some (nx, L, qK σ.1.length :: S, qold σ (0, c.headD 0))
  | 33 => match S with
    | some (.inl y) :: some (.inl x) :: S' => if S'.length ≤ 4 then some (nx, L, qI (if x < y then y else x) :: S', σ) else none
    | _ => none
  | 34 => match S with
    | some (.inr (.inl _)) :: S' => if S'.length ≤ 4 then some (nx, L, S', σ) else none
    | _ => none
  | 35 => if a = 0 then (match S with
    | some (.inl x) :: S' => some (nx, L, qJ (Int32.ofInt x).toInt64 :: S', σ)
    | _ => none) else (match S with
    | some (.inr (.inr y)) :: some (.inr (.inr x)) :: S' => if x = y then some (nx, L, qI 0 :: S', σ) else none
    | _ => none)
  | 36 => match L[b]? with
    | some (some (.inr (.inr x))) => some (nx, L, qJ x :: S, σ)
    | _ => none
  | 37 => match S with
    | some (.inr (.inr x)) :: S' => if b + 1 < L.length then some (nx, (L.set b (qJ x)).set (b + 1) none, S', σ) else none
    | _ => none
  | 38 => match S with
    | some (.inr (.inr y)) :: some (.inr (.inr x)) :: S' => some (nx, L, qJ (if a = 0 then x + y else x * y) :: S', σ)
    | _ => none
  | 39 => some (nx, L, qJ (Int64.ofInt a) :: S, σ)
  | _ => none
/-- the receiver of a call of method b: an object of its class -/
def qrcv (b : Nat) (as : List qA) (σ : qM) : Bool :=
  qnol as && match qKi b with
  | 0 => true
  | 1 => match as with
    | some (.inr (.inl k)) :: _ => decide (σ.1[k]? = some (0, qCl b))
    | _ => false
  | 2 => match as with
    | some (.inr (.inl _)) :: _ => true
    | _ => false
  | _ => false
def qent (b : Nat) (as : List qA) : List qA := as ++ List.replicate (qNl b - as.length) none
def qbody (ev : Nat → Nat → List qA → List qA → qM → Option (qA × qM)) (m pc : Nat) (L S : List qA) (σ : qM) : Option (qA × qM) :=
  match qcd m pc with
  | none => none
  | some (op, a, b, c, nx) =>
    if op < 40 then
      match qstep op a b c nx pc L S σ with
      | some (pc', L', S', σ') => ev m pc' L' S' σ'
      | none => none
    else if op = 40 then
      (if qNa b ≤ S.length ∧ S.length ≤ qNa b + 4 ∧ qrcv b (S.take (qNa b)).reverse σ = true ∧ qNa b ≤ qNl b then
        match ev b 0 (qent b (S.take (qNa b)).reverse) [] σ with
        | some (r, σ') => ev m nx L (if qRt b = 0 then S.drop (qNa b) else r :: S.drop (qNa b)) σ'
        | none => none
      else none)
    else if op = 41 then (match S with
      | [some (.inl x)] => some (qI x, σ)
      | _ => none)
    else if op = 42 then (match S with
      | [some (.inl x)] => if x = 0 ∨ x = 1 then some (qI x, σ) else none
      | _ => none)
    else if op = 43 then (match S with
      | [some (.inr (.inl x))] => some (qK x, σ)
      | _ => none)
    else if op = 44 then (match S with
      | [] => some (none, σ)
      | _ => none)
    else if op = 45 then (match S with
      | [some (.inr (.inr x))] => some (qJ x, σ)
      | _ => none)
    else none
def qev : Nat → Nat → Nat → List qA → List qA → qM → Option (qA × qM)
  | 0 => fun _ _ _ _ _ => none
  | n + 1 => qbody (qev n)
theorem qev_mono : ∀ (n : Nat) (m pc : Nat) (L S : List qA) (σ : qM) (x : qA × qM), qev n m pc L S σ = some x → ∀ k, n ≤ k → qev k m pc L S σ = some x := by
  intro n
  induction n with
  | zero => intro m pc L S σ x h; exact absurd h (by simp [qev])
  | succ n ih =>
    intro m pc L S σ x h k hk
    obtain ⟨k, rfl⟩ : ∃ j, k = j + 1 := ⟨k - 1, by omega⟩
    have hk : n ≤ k := by omega
    change qbody (qev n) m pc L S σ = some x at h
    change qbody (qev k) m pc L S σ = some x
    unfold qbody at h ⊢
    split at h
    · exact absurd h (by simp)
    · rename_i op a b c nx hc
      split at h
      · rename_i ho
        rw [if_pos ho]
        split at h
        · rename_i pc' L' S' σ' hs
          exact ih _ _ _ _ _ _ h k hk
        · exact absurd h (by simp)
      · rename_i ho
        rw [if_neg ho]
        split at h
        · rename_i ho2
          rw [if_pos ho2]
          split at h
          · rename_i hg
            rw [if_pos hg]
            split at h
            · rename_i r σ' hs
              rw [ih _ _ _ _ _ _ hs k hk]
              exact ih _ _ _ _ _ _ h k hk
            · exact absurd h (by simp)
          · exact absurd h (by simp)
        · rename_i ho2
          rw [if_neg ho2]
          exact h
/-- a method, from a place in it, comes to its end, and of its answer and the memory then Q holds -/
def qW (m pc : Nat) (L S : List qA) (σ : qM) (Q : qA → qM → Prop) : Prop := ∃ (n : Nat) (r : qA) (σ' : qM), qev n m pc L S σ = some (r, σ') ∧ Q r σ'
theorem qW_mono {m pc : Nat} {L S : List qA} {σ : qM} {Q Q' : qA → qM → Prop} (h : qW m pc L S σ Q) (hq : ∀ r σ', Q r σ' → Q' r σ') : qW m pc L S σ Q' := by
  obtain ⟨n, r, σ', h1, h2⟩ := h
  exact ⟨n, r, σ', h1, hq _ _ h2⟩
theorem qW_step {m pc : Nat} {L S : List qA} {σ : qM} {Q : qA → qM → Prop} {op : Nat} {a : Int} {b : Nat} {c : List Nat} {nx : Nat} {pc' : Nat} {L' S' : List qA} {σ' : qM} (hc : qcd m pc = some (op, a, b, c, nx)) (ho : op < 40) (hs : qstep op a b c nx pc L S σ = some (pc', L', S', σ')) (k : qW m pc' L' S' σ' Q) : qW m pc L S σ Q := by
  obtain ⟨n, r, σ2, h1, h2⟩ := k
  refine ⟨n + 1, r, σ2, ?_, h2⟩
  show qbody (qev n) m pc L S σ = _
  unfold qbody
  rw [hc]
  simp only [if_pos ho, hs, h1]
theorem qW_call {m pc : Nat} {L S : List qA} {σ : qM} {Q Q1 : qA → qM → Prop} {a : Int} {b : Nat} {c : List Nat} {nx : Nat} {L0 : List qA} (hc : qcd m pc = some (40, a, b, c, nx)) (hn : qNa b ≤ S.length ∧ S.length ≤ qNa b + 4 ∧ qNa b ≤ qNl b) (hr : qrcv b (S.take (qNa b)).reverse σ = true) (hL : qent b (S.take (qNa b)).reverse = L0) (h1 : qW b 0 L0 [] σ Q1)
    (k : ∀ r σ', Q1 r σ' → qW m nx L (if qRt b = 0 then S.drop (qNa b) else r :: S.drop (qNa b)) σ' Q) : qW m pc L S σ Q := by
  obtain ⟨n1, r1, σ1, e1, q1⟩ := h1
  obtain ⟨n2, r2, σ2, e2, q2⟩ := k r1 σ1 q1
  subst hL
  refine ⟨max n1 n2 + 1, r2, σ2, ?_, q2⟩
  show qbody (qev (max n1 n2)) m pc L S σ = _
  unfold qbody
  rw [hc]
  simp only [show ¬ (40 : Nat) < 40 from by decide, if_false, if_true, hn.1, hn.2.1, hn.2.2, hr, and_self]
  rw [qev_mono _ _ _ _ _ _ _ e1 _ (Nat.le_max_left _ _)]
  exact qev_mono _ _ _ _ _ _ _ e2 _ (Nat.le_max_right _ _)
/-- a method that answers v and leaves the memory as it is -/
abbrev qP (b : Nat) (L0 : List qA) (σ : qM) (v : qA) : Prop := qW b 0 L0 [] σ (fun r σ' => r = v ∧ σ' = σ)
theorem qW_ireturn {m pc : Nat} {L : List qA} {σ : qM} {Q : qA → qM → Prop} {x : Int} {a : Int} {b : Nat} {c : List Nat} {nx : Nat} (hc : qcd m pc = some (41, a, b, c, nx)) (h : Q (qI x) σ) : qW m pc L [qI x] σ Q := by
  refine ⟨1, qI x, σ, ?_, h⟩
  show qbody (qev 0) m pc _ _ σ = _
  unfold qbody
  rw [hc]; rfl
theorem qW_zreturn {m pc : Nat} {L : List qA} {σ : qM} {Q : qA → qM → Prop} {x : Int} {a : Int} {b : Nat} {c : List Nat} {nx : Nat} (hc : qcd m pc = some (42, a, b, c, nx)) (hx : x = 0 ∨ x = 1) (h : Q (qI x) σ) : qW m pc L [qI x] σ Q := by
  refine ⟨1, qI x, σ, ?_, h⟩
  show qbody (qev 0) m pc _ _ σ = _
  unfold qbody
  rw [hc]
  simp [hx]
theorem qW_areturn {m pc : Nat} {L : List qA} {σ : qM} {Q : qA → qM → Prop} {x : Nat} {a : Int} {b : Nat} {c : List Nat} {nx : Nat} (hc : qcd m pc = some (43, a, b, c, nx)) (h : Q (qK x) σ) : qW m pc L [qK x] σ Q := by
  refine ⟨1, qK x, σ, ?_, h⟩
  show qbody (qev 0) m pc _ _ σ = _
  unfold qbody
  rw [hc]; rfl
theorem qW_return {m pc : Nat} {L : List qA} {σ : qM} {Q : qA → qM → Prop} {a : Int} {b : Nat} {c : List Nat} {nx : Nat} (hc : qcd m pc = some (44, a, b, c, nx)) (h : Q none σ) : qW m pc L [] σ Q := by
  refine ⟨1, none, σ, ?_, h⟩
  show qbody (qev 0) m pc _ _ σ = _
  unfold qbody
  rw [hc]; rfl
theorem qW_lreturn {m pc : Nat} {L : List qA} {σ : qM} {Q : qA → qM → Prop} {x : Int64} {a : Int} {b : Nat} {c : List Nat} {nx : Nat} (hc : qcd m pc = some (45, a, b, c, nx)) (h : Q (qJ x) σ) : qW m pc L [qJ x] σ Q := by
  refine ⟨1, qJ x, σ, ?_, h⟩
  show qbody (qev 0) m pc _ _ σ = _
  unfold qbody
  rw [hc]; rfl
