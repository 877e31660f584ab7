/-! like: the most like record -/
variable {m : Nat → Int → Int} {r : Nat → Int → Option Nat} {w : qWd}
def qBo (fs gs : List Int) (p : Nat) : Int := if (p : Int) ∈ fs ∧ (p : Int) ∈ gs then 1 else 0
theorem qIc_sum {n : Nat} (hn : n ≤ 100) (gs : List Int) : ∀ fs : List Int, fs.Nodup → (∀ f ∈ fs, f < 100 → 0 ≤ f ∧ f < n) → qSm n 0 (qBo fs gs) = qIc fs gs := by
  intro fs
  induction fs with
  | nil =>
    intro _ _
    have e : qBo [] gs = fun _ => 0 := by
      funext p
      unfold qBo
      rw [if_neg (fun h => by cases h.1)]
    rw [e, qSm_zero]
    rfl
  | cons f t ih =>
    intro h1 h2
    rw [List.nodup_cons] at h1
    have ih1 := ih h1.2 (fun g hg => h2 g (List.mem_cons_of_mem _ hg))
    have e : qSm n 0 (qBo (f :: t) gs) = qSm n 0 (fun j => (if f = (j : Int) then (if (j : Int) ∈ gs then 1 else 0) else 0) + qBo t gs j) := by
      refine qSm_congr n 0 (fun j _ _ => ?_)
      unfold qBo
      by_cases e1 : f = (j : Int)
      · subst e1
        rw [if_pos rfl, if_neg (c := (j : Int) ∈ t ∧ (j : Int) ∈ gs) (fun h => h1.1 h.1)]
        by_cases e2 : (j : Int) ∈ gs
        · rw [if_pos e2, if_pos ⟨List.mem_cons_self, e2⟩]
          rfl
        · rw [if_neg e2, if_neg (fun h => e2 h.2)]
          rfl
      · rw [if_neg e1, Int.zero_add]
        by_cases e2 : (j : Int) ∈ t ∧ (j : Int) ∈ gs
        · rw [if_pos e2, if_pos ⟨List.mem_cons_of_mem _ e2.1, e2.2⟩]
        · rw [if_neg e2, if_neg (fun h => e2 ⟨by rcases List.mem_cons.mp h.1 with h3 | h3; exact absurd h3.symm e1; exact h3, h.2⟩)]
    rw [e, qSm_add, ih1, qSm_delta (fun j => if j ∈ gs then 1 else 0) f n 0]
    simp only [qIc]
    congr 1
    by_cases hf : f < 100
    · have h3 := h2 f List.mem_cons_self hf
      rw [if_pos (by omega)]
      by_cases e2 : f ∈ gs
      · rw [if_pos e2, if_pos ⟨hf, e2⟩]
      · rw [if_neg e2, if_neg (fun h => e2 h.2)]
    · rw [if_neg (by omega), if_neg (fun h => hf h.1)]
theorem fValue_mem (hx : qXN w) {i p : Int} (h : qAt (qRs w.1) i ≠ -9) (hp : 0 ≤ p ∧ p < w.1.1.length) : (p ∈ qFr' w.1 i ∧ 0 ≤ fValue w i p) ∨ (p ∉ qFr' w.1 i ∧ fValue w i p = -9) := by
  have hn := qLp_none (qFr' w.1 i) p 0 (by omega)
  by_cases hl : qLp (qFr' w.1 i) p 0 = -9
  · exact Or.inr ⟨hn.mp hl, fValue_no h hp hl⟩
  · refine Or.inl ⟨Classical.byContradiction (fun e => hl (hn.mpr e)), ?_⟩
    rw [fValue_yes h hp hl]
    exact (fValue_rng hx h hp hl).1
theorem lk_in {Q : qA → qM → Prop} {y i : Nat} (hy : qAt (qRs w.1) y ≠ -9) (hi : qAt (qRs w.1) i ≠ -9) {b n : Int} : ∀ (k p : Nat) (c : Int) (m : Nat → Int → Int) (r : Nat → Int → Option Nat), qOb m r w → p + k = w.1.1.length → 0 ≤ c → c ≤ p → (∀ (m : Nat → Int → Int) (r : Nat → Int → Option Nat) (x6 : qA) (c' : Int), qOb m r w → c' = c + qSm k p (qBo (qFr' w.1 y) (qFr' w.1 i)) → qW m_Lw_like 87 [qK 0, qI y, qI b, qI n, qI i, qI c', x6] [] (qT0, m, r) Q) → qW m_Lw_like 40 [qK 0, qI y, qI b, qI n, qI i, qI c, qI p] [] (qT0, m, r) Q := by
  have c1 : fCount w 1 = (w.1.2.2.2.length : Int) := rfl
  have c2 : fCount w 2 = (w.1.1.length : Int) := rfl
  have c3 : fCount w 3 = (w.1.2.1.length : Int) := rfl
  have c8 : fCount w 8 = (w.2.1.length : Int) := rfl
  intro k
  induction k with
  | zero =>
    intro p c m r hO hik g1 g2 kk
    have hi0 : p = w.1.1.length := by omega
    subst hi0
    refine qr_il rfl rfl (w := ?_)
    refine qr_al rfl rfl (w := ?_)
    refine qr_const rfl (w := ?_)
    refine qr_callX rfl (oCount hO) (qrcv1 kd_0) (w := ?_)
    intro m r ⟨hO, hm⟩
    refine qr_icge rfl (fun hc => ?_) (fun hc => absurd hc (by omega))
    exact kk m r _ _ hO (by simp [qSm])
  | succ k ih =>
    intro p c m r hO hik g1 g2 kk
    obtain ⟨b1, b2, b3, b4, b5, b6⟩ := qOb_bd hO
    simp only [qSm] at kk
    have f1 := fValue_mem hO.2 hy (p := (p : Int)) (by omega)
    have f2 := fValue_mem hO.2 hi (p := (p : Int)) (by omega)
    have ih2 : ∀ (c' : Int) (m : Nat → Int → Int) (r : Nat → Int → Option Nat), qOb m r w → c' = c + qBo (qFr' w.1 y) (qFr' w.1 i) p → 0 ≤ c' → c' ≤ p + 1 → qW m_Lw_like 40 [qK 0, qI y, qI b, qI n, qI i, qI c', qI ((p + 1 : Nat) : Int)] [] (qT0, m, r) Q := fun c' m r hO e g3 g4 => ih (p + 1) c' m r hO (by omega) g3 g4 (fun m r x6 c2 hO e2 => kk m r x6 c2 hO (by omega))
    rcases f1 with ⟨f1, f3⟩ | ⟨f1, f3⟩
    · rcases f2 with ⟨f2, f4⟩ | ⟨f2, f4⟩
      · have hq : qBo (qFr' w.1 y) (qFr' w.1 i) p = 1 := if_pos ⟨f1, f2⟩
        refine qr_il rfl rfl (w := ?_)
        refine qr_al rfl rfl (w := ?_)
        refine qr_const rfl (w := ?_)
        refine qr_callX rfl (oCount hO) (qrcv1 kd_0) (w := ?_)
        intro m r ⟨hO, hm⟩
        refine qr_icge rfl (fun hc => absurd hc (by omega)) (fun hc => ?_)
        refine qr_il rfl rfl (w := ?_)
        refine qr_al rfl rfl (w := ?_)
        refine qr_il rfl rfl (w := ?_)
        refine qr_il rfl rfl (w := ?_)
        refine qr_callX rfl (oValue hO) (qrcv1 kd_0) (w := ?_)
        intro m r ⟨hO, hm⟩
        refine qr_iflt rfl (fun hcf => absurd hcf (by omega)) (fun hcf => ?_)
        refine qr_al rfl rfl (w := ?_)
        refine qr_il rfl rfl (w := ?_)
        refine qr_il rfl rfl (w := ?_)
        refine qr_callX rfl (oValue hO) (qrcv1 kd_0) (w := ?_)
        intro m r ⟨hO, hm⟩
        refine qr_iflt rfl (fun hcff => absurd hcff (by omega)) (fun hcff => ?_)
        refine qr_const rfl (w := ?_)
        refine qr_goto rfl (w := ?_)
        refine qr_add rfl (by omega) (w := ?_)
        refine qr_is5 rfl (w := ?_)
        refine qr_inc6 rfl (by omega) (w := ?_)
        refine qr_goto rfl (w := ?_)
        exact ih2 _ m r hO (by rw [hq]) (by omega) (by omega)
      · have hq : qBo (qFr' w.1 y) (qFr' w.1 i) p = 0 := if_neg (fun h => f2 h.2)
        refine qr_il rfl rfl (w := ?_)
        refine qr_al rfl rfl (w := ?_)
        refine qr_const rfl (w := ?_)
        refine qr_callX rfl (oCount hO) (qrcv1 kd_0) (w := ?_)
        intro m r ⟨hO, hm⟩
        refine qr_icge rfl (fun hc => absurd hc (by omega)) (fun hc => ?_)
        refine qr_il rfl rfl (w := ?_)
        refine qr_al rfl rfl (w := ?_)
        refine qr_il rfl rfl (w := ?_)
        refine qr_il rfl rfl (w := ?_)
        refine qr_callX rfl (oValue hO) (qrcv1 kd_0) (w := ?_)
        intro m r ⟨hO, hm⟩
        refine qr_iflt rfl (fun hcf => absurd hcf (by omega)) (fun hcf => ?_)
        refine qr_al rfl rfl (w := ?_)
        refine qr_il rfl rfl (w := ?_)
        refine qr_il rfl rfl (w := ?_)
        refine qr_callX rfl (oValue hO) (qrcv1 kd_0) (w := ?_)
        intro m r ⟨hO, hm⟩
        refine qr_iflt rfl (fun hcff => ?_) (fun hcff => absurd hcff (by omega))
        refine qr_const rfl (w := ?_)
        refine qr_add rfl (by omega) (w := ?_)
        refine qr_is5 rfl (w := ?_)
        refine qr_inc6 rfl (by omega) (w := ?_)
        refine qr_goto rfl (w := ?_)
        exact ih2 _ m r hO (by rw [hq]) (by omega) (by omega)
    · have hq : qBo (qFr' w.1 y) (qFr' w.1 i) p = 0 := if_neg (fun h => f1 h.1)
      refine qr_il rfl rfl (w := ?_)
      refine qr_al rfl rfl (w := ?_)
      refine qr_const rfl (w := ?_)
      refine qr_callX rfl (oCount hO) (qrcv1 kd_0) (w := ?_)
      intro m r ⟨hO, hm⟩
      refine qr_icge rfl (fun hc => absurd hc (by omega)) (fun hc => ?_)
      refine qr_il rfl rfl (w := ?_)
      refine qr_al rfl rfl (w := ?_)
      refine qr_il rfl rfl (w := ?_)
      refine qr_il rfl rfl (w := ?_)
      refine qr_callX rfl (oValue hO) (qrcv1 kd_0) (w := ?_)
      intro m r ⟨hO, hm⟩
      refine qr_iflt rfl (fun hcf => ?_) (fun hcf => absurd hcf (by omega))
      refine qr_const rfl (w := ?_)
      refine qr_add rfl (by omega) (w := ?_)
      refine qr_is5 rfl (w := ?_)
      refine qr_inc6 rfl (by omega) (w := ?_)
      refine qr_goto rfl (w := ?_)
      exact ih2 _ m r hO (by rw [hq]) (by omega) (by omega)
theorem lk_out {Q : qA → qM → Prop} {y : Nat} (hy : qAt (qRs w.1) y ≠ -9) : ∀ (k i : Nat) (b n : Int) (m : Nat → Int → Int) (r : Nat → Int → Option Nat) (x5 x6 : qA), qOb m r w → i + k = w.1.2.2.2.length → (∀ (m : Nat → Int → Int) (r : Nat → Int → Option Nat) (x5 x6 : qA) (b' n' : Int), qOb m r w → b' = qLk (qRs w.1) w.1.2.1 y k i b n → qW m_Lw_like 119 [qK 0, qI y, qI b', qI n', qI (w.1.2.2.2.length : Nat), x5, x6] [] (qT0, m, r) Q) → qW m_Lw_like 8 [qK 0, qI y, qI b, qI n, qI i, x5, x6] [] (qT0, m, r) Q := by
  have c1 : fCount w 1 = (w.1.2.2.2.length : Int) := rfl
  have c2 : fCount w 2 = (w.1.1.length : Int) := rfl
  have c3 : fCount w 3 = (w.1.2.1.length : Int) := rfl
  have c8 : fCount w 8 = (w.2.1.length : Int) := rfl
  intro k
  induction k with
  | zero =>
    intro i b n m r x5 x6 hO hik kk
    have hi0 : i = w.1.2.2.2.length := by omega
    subst hi0
    refine qr_il rfl rfl (w := ?_)
    refine qr_al rfl rfl (w := ?_)
    refine qr_const rfl (w := ?_)
    refine qr_callX rfl (oCount hO) (qrcv1 kd_0) (w := ?_)
    intro m r ⟨hO, hm⟩
    refine qr_icge rfl (fun hc => ?_) (fun hc => absurd hc (by omega))
    exact kk m r _ _ _ _ hO rfl
  | succ k ih =>
    intro i b n m r x5 x6 hO hik kk
    obtain ⟨b1, b2, b3, b4, b5, b6⟩ := qOb_bd hO
    simp only [qLk] at kk
    by_cases hiy : (i : Int) = y
    · have hk : ¬ ((i : Int) ≠ y ∧ qAt (qRs w.1) i ≠ -9 ∧ n < qIc (qGf w.1.2.1 (qAt (qRs w.1) y)) (qGf w.1.2.1 (qAt (qRs w.1) i))) := fun h => h.1 hiy
      rw [if_neg hk] at kk
      refine qr_il rfl rfl (w := ?_)
      refine qr_al rfl rfl (w := ?_)
      refine qr_const rfl (w := ?_)
      refine qr_callX rfl (oCount hO) (qrcv1 kd_0) (w := ?_)
      intro m r ⟨hO, hm⟩
      refine qr_icge rfl (fun hc => absurd hc (by omega)) (fun hc => ?_)
      refine qr_il rfl rfl (w := ?_)
      refine qr_il rfl rfl (w := ?_)
      refine qr_iceq rfl (fun hcf => ?_) (fun hcf => absurd hcf (by omega))
      refine qr_inc4 rfl (by omega) (w := ?_)
      refine qr_goto rfl (w := ?_)
      exact ih (i + 1) _ _ m r _ _ hO (by omega) kk
    · by_cases h9 : qAt (qRs w.1) i = -9
      · have hk : ¬ ((i : Int) ≠ y ∧ qAt (qRs w.1) i ≠ -9 ∧ n < qIc (qGf w.1.2.1 (qAt (qRs w.1) y)) (qGf w.1.2.1 (qAt (qRs w.1) i))) := fun h => h.2.1 h9
        rw [if_neg hk] at kk
        have e0 : fRecord w i 0 = -1 := fRecord_9 h9
        refine qr_il rfl rfl (w := ?_)
        refine qr_al rfl rfl (w := ?_)
        refine qr_const rfl (w := ?_)
        refine qr_callX rfl (oCount hO) (qrcv1 kd_0) (w := ?_)
        intro m r ⟨hO, hm⟩
        refine qr_icge rfl (fun hc => absurd hc (by omega)) (fun hc => ?_)
        refine qr_il rfl rfl (w := ?_)
        refine qr_il rfl rfl (w := ?_)
        refine qr_iceq rfl (fun hcf => absurd hcf (by omega)) (fun hcf => ?_)
        refine qr_al rfl rfl (w := ?_)
        refine qr_il rfl rfl (w := ?_)
        refine qr_const rfl (w := ?_)
        refine qr_callX rfl (oRecord hO) (qrcv1 kd_0) (w := ?_)
        intro m r ⟨hO, hm⟩
        refine qr_iflt rfl (fun hcff => ?_) (fun hcff => absurd hcff (by omega))
        refine qr_inc4 rfl (by omega) (w := ?_)
        refine qr_goto rfl (w := ?_)
        exact ih (i + 1) _ _ m r _ _ hO (by omega) kk
      · have hs := qWA_rs hO.2.1.1.1 (i : Int)
        have e0 := fRecord_0 h9
        have hws := qWs_gf hO.2.1.1.1 (qAt (qRs w.1) y)
        have hsm := qIc_sum (n := w.1.1.length) (by omega) (qFr' w.1 i) (qFr' w.1 y) (qMap_nd (qXN_gf hO.2.2.1 _)) (fun f hf hf1 => by
          have h3 := hws.2.2.1 f hf
          have h4 : qPa f = f := by
            unfold qPa
            rw [if_neg (by omega)]
          rw [h4] at h3
          exact h3.2)
        refine qr_il rfl rfl (w := ?_)
        refine qr_al rfl rfl (w := ?_)
        refine qr_const rfl (w := ?_)
        refine qr_callX rfl (oCount hO) (qrcv1 kd_0) (w := ?_)
        intro m r ⟨hO, hm⟩
        refine qr_icge rfl (fun hc => absurd hc (by omega)) (fun hc => ?_)
        refine qr_il rfl rfl (w := ?_)
        refine qr_il rfl rfl (w := ?_)
        refine qr_iceq rfl (fun hcf => absurd hcf (by omega)) (fun hcf => ?_)
        refine qr_al rfl rfl (w := ?_)
        refine qr_il rfl rfl (w := ?_)
        refine qr_const rfl (w := ?_)
        refine qr_callX rfl (oRecord hO) (qrcv1 kd_0) (w := ?_)
        intro m r ⟨hO, hm⟩
        refine qr_iflt rfl (fun hcff => absurd hcff (by omega)) (fun hcff => ?_)
        refine qr_const rfl (w := ?_)
        refine qr_is5 rfl (w := ?_)
        refine qr_const rfl (w := ?_)
        refine qr_is6 rfl (w := ?_)
        refine lk_in hy h9 w.1.1.length 0 0 m r hO (by omega) (by omega) (by omega) (fun m r x6 c' hO hc' => ?_)
        rw [hsm, Int.zero_add] at hc'
        have hc2 : c' = qIc (qGf w.1.2.1 (qAt (qRs w.1) y)) (qGf w.1.2.1 (qAt (qRs w.1) i)) := hc'
        by_cases hbg : n < c'
        · rw [if_pos ⟨hiy, h9, by omega⟩, ← hc2] at kk
          refine qr_il rfl rfl (w := ?_)
          refine qr_il rfl rfl (w := ?_)
          refine qr_icle rfl (fun hc => absurd hc (by omega)) (fun hc => ?_)
          refine qr_il rfl rfl (w := ?_)
          refine qr_goto rfl (w := ?_)
          refine qr_is2 rfl (w := ?_)
          refine qr_il rfl rfl (w := ?_)
          refine qr_il rfl rfl (w := ?_)
          refine qr_icle rfl (fun hcf => absurd hcf (by omega)) (fun hcf => ?_)
          refine qr_il rfl rfl (w := ?_)
          refine qr_goto rfl (w := ?_)
          refine qr_is3 rfl (w := ?_)
          refine qr_inc4 rfl (by omega) (w := ?_)
          refine qr_goto rfl (w := ?_)
          exact ih (i + 1) _ _ m r _ _ hO (by omega) kk
        · rw [if_neg (fun h => hbg (by omega))] at kk
          refine qr_il rfl rfl (w := ?_)
          refine qr_il rfl rfl (w := ?_)
          refine qr_icle rfl (fun hc => ?_) (fun hc => absurd hc (by omega))
          refine qr_il rfl rfl (w := ?_)
          refine qr_is2 rfl (w := ?_)
          refine qr_il rfl rfl (w := ?_)
          refine qr_il rfl rfl (w := ?_)
          refine qr_icle rfl (fun hct => ?_) (fun hct => absurd hct (by omega))
          refine qr_il rfl rfl (w := ?_)
          refine qr_is3 rfl (w := ?_)
          refine qr_inc4 rfl (by omega) (w := ?_)
          refine qr_goto rfl (w := ?_)
          exact ih (i + 1) _ _ m r _ _ hO (by omega) kk
theorem pLike (hO : qOb m r w) {y : Nat} (hy : qAt (qRs w.1) y ≠ -9) : qW m_Lw_like 0 [qK 0, qI y, none, none, none, none, none] [] (qT0, m, r) (qPo (qI 1) w) := by
  have hl : fLike w y = qLk (qRs w.1) w.1.2.1 y w.1.2.2.2.length 0 (-9) (-1) := by
    unfold fLike qLike
    rw [if_pos hy, qRs_len]
  refine qr_const rfl (w := ?_)
  refine qr_is2 rfl (w := ?_)
  refine qr_const rfl (w := ?_)
  refine qr_is3 rfl (w := ?_)
  refine qr_const rfl (w := ?_)
  refine qr_is4 rfl (w := ?_)
  refine lk_out hy w.1.2.2.2.length 0 _ _ m r _ _ hO (Nat.zero_add _) (fun m r x5 x6 b n hO hb => ?_)
  refine qr_al rfl rfl (w := ?_)
  refine qr_il rfl rfl (w := ?_)
  refine qr_callX rfl (oLike hO) (qrcv1 kd_0) (w := ?_)
  intro m r ⟨hO, hm⟩
  refine qr_il rfl rfl (w := ?_)
  refine qr_icne rfl (fun hc => absurd hc (by omega)) (fun hc => ?_)
  refine qr_const rfl (w := ?_)
  refine qr_goto rfl (w := ?_)
  refine qW_zreturn rfl (by first | exact Or.inl rfl | exact Or.inr rfl | (simp only [qbi]; split <;> simp)) ?_
  exact ⟨m, r, rfl, rfl, hO⟩
