/-! The start: no reference outside a cell's size -/
def qsr' (kd : Nat × Nat) : Nat := match kd.1 with
  | 0 => (qfs kd.2).length
  | 1 => 0
  | _ + 2 => kd.2
def qSup (σ : qM) : Prop := ∀ (k : Nat) (j : Int), (∀ kd, σ.1[k]? = some kd → ¬ (0 ≤ j ∧ j < qsr' kd)) → σ.2.2 k j = none
theorem qSup_old {σ : qM} {kd : Nat × Nat} (h : qSup σ) : qSup (qold σ kd) := by
  intro k j hk
  show qrow σ.2.2 σ.1.length none k j = none
  unfold qrow
  by_cases e : k = σ.1.length
  · rw [if_pos e]
  · rw [if_neg e]
    refine h k j (fun kd2 h2 => hk kd2 ?_)
    show (σ.1 ++ [kd])[k]? = some kd2
    have hlt : k < σ.1.length := by
      by_cases hlt : k < σ.1.length
      · exact hlt
      · rw [List.getElem?_eq_none (by omega)] at h2
        cases h2
    rw [List.getElem?_append_left hlt]
    exact h2
theorem qSup_up {σ : qM} {z : Nat} {i : Int} {x : Nat} {kd : Nat × Nat} (h : qSup σ) (hz : σ.1[z]? = some kd) (hi : 0 ≤ i ∧ i < qsr' kd) : qSup (σ.1, σ.2.1, qup σ.2.2 z i (some x)) := by
  intro k j hk
  show qup σ.2.2 z i (some x) k j = none
  unfold qup
  by_cases e : k = z
  · rw [if_pos e]
    by_cases e2 : j = i
    · exact absurd (e2 ▸ hi) (hk kd (by show σ.1[k]? = some kd; rw [e]; exact hz))
    · rw [if_neg e2]
      exact h k j hk
  · rw [if_neg e]
    exact h k j hk
theorem qSup_i {σ : qM} (h : qSup σ) {m' : Nat → Int → Int} : qSup (σ.1, m', σ.2.2) := h
theorem qstep_sup {op : Nat} {a : Int} {b : Nat} {c : List Nat} {nx pc : Nat} {L S : List qA} {σ : qM} {pc' : Nat} {L' S' : List qA} {σ' : qM} (hs : qSup σ) (h : qstep op a b c nx pc L S σ = some (pc', L', S', σ')) : qSup σ' := by
  unfold qstep at h
  repeat' split at h
  all_goals first
    | (cases h; done)
    | (simp only [Option.some.injEq, Prod.mk.injEq] at h
       obtain ⟨-, -, -, rfl⟩ := h
       first
         | exact hs
         | exact qSup_old hs
         | exact qSup_i hs)
    | skip
  · rename_i hc
    simp only [Option.some.injEq, Prod.mk.injEq] at h
    obtain ⟨-, -, -, rfl⟩ := h
    refine qSup_up hs hc.2.1 ⟨hc.1, ?_⟩
    have h9 := (List.getElem?_eq_some_iff.mp hc.2.2).1
    show a < (((qfs (c.headD 0)).length : Nat) : Int)
    omega
  · rename_i hk hc
    simp only [Option.some.injEq, Prod.mk.injEq] at h
    obtain ⟨-, -, -, rfl⟩ := h
    exact qSup_up hs hk ⟨hc.1, hc.2.1⟩
theorem qev_sup : ∀ (n k pc : Nat) (L S : List qA) (σ : qM) (r : qA) (σ' : qM), qSup σ → qev n k pc L S σ = some (r, σ') → qSup σ' := by
  intro n
  induction n with
  | zero => intro k pc L S σ r σ' hs h; exact absurd h (by simp [qev])
  | succ n ih =>
    intro k pc L S σ r σ' hs h
    change qbody (qev n) k pc L S σ = _ at h
    unfold qbody at h
    split at h
    · exact absurd h (by simp)
    · rename_i op a b c nx hc
      split at h
      · split at h
        · rename_i pc' L' S' σ1 h1
          exact ih _ _ _ _ _ _ _ (qstep_sup hs h1) h
        · exact absurd h (by simp)
      · split at h
        · split at h
          · split at h
            · rename_i r1 σ1 h1
              exact ih _ _ _ _ _ _ _ (ih _ _ _ _ _ _ _ hs h1) h
            · exact absurd h (by simp)
          · exact absurd h (by simp)
        · repeat' split at h
          all_goals first
            | (cases h; done)
            | (simp only [Option.some.injEq, Prod.mk.injEq] at h
               obtain ⟨-, rfl⟩ := h
               exact hs)
