/-! Reading: the class's automaton, as a function; its state: paths, fields, numbers, step, level, open, named -/
variable {m : Nat → Int → Int} {r : Nat → Int → Option Nat}
abbrev qRd : Type := List (Int × Int) × List Int × List Int × Int × Int × Int × Int
def qDig (c : Int) : Bool := decide (48 ≤ c ∧ c ≤ 57)
def qOpn : qRd → Int → Int → Bool × qRd
  | (ps, fs, ns, st, lv, op, nm), c, br => if c ≠ 123 ∨ 4 ≤ lv then (false, (ps, fs, ns, st, lv, op, nm)) else (true, (ps, (if br = -9 then fs else fs ++ [100 + br]), ns, 1, lv + 1, br, nm))
def qCls : qRd → Bool × qRd
  | (ps, fs, ns, _, lv, op, nm) => (true, (ps, fs, ns, (if lv - 1 = 0 then 7 else 6), lv - 1, qOu ps op, nm))
def qLet : qRd → Int → Bool × qRd
  | (ps, fs, ns, st, lv, op, nm), c => if c < 97 ∨ 122 < c then (false, (ps, fs, ns, st, lv, op, nm)) else (!(fs.contains (qFi ps c op 0 : Nat)) && !(fs.contains (100 + (qFi ps c op 0 : Nat))), (qAd ps c op, fs, ns, 3, lv, op, (qFi ps c op 0 : Nat)))
def qCol : qRd → Int → Bool × qRd
  | (ps, fs, ns, _, lv, op, nm), c => (decide (c = 58), (ps, fs, ns, 4, lv, op, nm))
def qDg1 : qRd → Int → Bool × qRd
  | (ps, fs, ns, st, lv, op, nm), c => if 10 ≤ ns.length then (false, (ps, fs, ns, st, lv, op, nm)) else (true, (ps, fs ++ [nm], ns ++ [c - 48], 5, lv, op, nm))
def qDg2 : qRd → Int → Bool × qRd
  | (ps, fs, ns, st, lv, op, nm), c => if qAt ns (ns.length - 1) ≤ 0 ∨ 99 < qAt ns (ns.length - 1) then (false, (ps, fs, ns, st, lv, op, nm)) else (true, (ps, fs, ns.set (ns.length - 1) (qAt ns (ns.length - 1) * 10 + c - 48), st, lv, op, nm))
def qEnd : qRd → Int → Bool × qRd
  | s, c => if c = 125 then qCls s else (decide (c = 44), (s.1, s.2.1, s.2.2.1, 2, s.2.2.2.2.1, s.2.2.2.2.2.1, s.2.2.2.2.2.2))
def qSpc : qRd → qRd
  | (ps, fs, ns, st, lv, op, nm) => (ps, fs, ns, (if st = 5 then 6 else st), lv, op, nm)
def qTk (s : qRd) (c : Int) : Bool × qRd :=
  if c = 32 then (true, qSpc s)
  else if s.2.2.2.1 = 0 then qOpn s c (-9)
  else if s.2.2.2.1 = 1 then (if c = 125 then qCls s else qLet s c)
  else if s.2.2.2.1 = 2 then qLet s c
  else if s.2.2.2.1 = 3 then qCol s c
  else if s.2.2.2.1 = 4 then (if qDig c = true then qDg1 s c else qOpn s c s.2.2.2.2.2.2)
  else if s.2.2.2.1 = 5 then (if qDig c = true then qDg2 s c else qEnd s c)
  else if s.2.2.2.1 = 6 then qEnd s c
  else (false, s)
def qRg (m : Nat → Int → Int) (s : qRd) : Prop := qPh m 6 s.1 ∧ qFm m 11 s.2.1 ∧ qRw m 14 s.2.2.1 ∧ s.2.2.1.length ≤ 10 ∧ m 5 3 = s.2.2.2.1 ∧ m 5 4 = s.2.2.2.2.1 ∧ m 5 5 = s.2.2.2.2.2.1 ∧ m 5 6 = s.2.2.2.2.2.2
/-- what keeps the reading's steps within their rows -/
def qRp (s : qRd) : Prop := s.1.length < 86 ∧ s.2.1.length < 26 ∧ 0 ≤ s.2.2.2.2.1 ∧ s.2.2.2.2.1 ≤ 4 ∧ -9 ≤ s.2.2.2.2.2.2 ∧ s.2.2.2.2.2.2 ≤ 1000
theorem qRg_fr {P : Nat → Prop} {m m' : Nat → Int → Int} {s : qRd} (h : qRg m s) (f : qFr P m m') (h0 : ∀ a, 5 ≤ a → a < 16 → ¬ P a) : qRg m' s :=
  have e : m' 5 = m 5 := f 5 (h0 5 (by omega) (by omega))
  ⟨qPh_fr h.1 f (fun a h1 h2 => h0 a (by omega) (by omega)), qFm_fr h.2.1 f (h0 _ (by omega) (by omega)) (h0 _ (by omega) (by omega)) (h0 _ (by omega) (by omega)), qRw_fr h.2.2.1 f (h0 _ (by omega) (by omega)) (h0 _ (by omega) (by omega)), h.2.2.2.1, by rw [e]; exact h.2.2.2.2.1, by rw [e]; exact h.2.2.2.2.2.1, by rw [e]; exact h.2.2.2.2.2.2.1, by rw [e]; exact h.2.2.2.2.2.2.2⟩
/-- the reading's own numbers are written -/
theorem qRg_5 {m m' : Nat → Int → Int} {ps : List (Int × Int)} {fs ns : List Int} (h1 : qPh m 6 ps) (h2 : qFm m 11 fs) (h3 : qRw m 14 ns) (h4 : ns.length ≤ 10) (f : qFr (fun a => a = 5) m m') : qRg m' (ps, fs, ns, m' 5 3, m' 5 4, m' 5 5, m' 5 6) :=
  ⟨qPh_fr h1 f (fun a g1 g2 => by show ¬ a = 5; omega), qFm_fr h2 f (by decide) (by decide) (by decide), qRw_fr h3 f (by decide) (by decide), h4, rfl, rfl, rfl, rfl⟩
theorem qRg_5x {m m' : Nat → Int → Int} {ps : List (Int × Int)} {fs ns : List Int} {a b c d : Int} (h1 : qPh m 6 ps) (h2 : qFm m 11 fs) (h3 : qRw m 14 ns) (h4 : ns.length ≤ 10) (f : qFr (fun a => a = 5) m m') (g3 : m' 5 3 = a) (g4 : m' 5 4 = b) (g5 : m' 5 5 = c) (g6 : m' 5 6 = d) : qRg m' (ps, fs, ns, a, b, c, d) := by
  subst g3 g4 g5 g6
  exact qRg_5 h1 h2 h3 h4 f
theorem qFr_5 {m : Nat → Int → Int} {i x : Int} : qFr (fun a => a = 5) m (qup m 5 i x) := qFr_up rfl
theorem qFr_5I {m m' : Nat → Int → Int} (h : qFr (fun a => a = 5) m m') : qFr (qIv 5 16) m m' := qFr_mo h (fun a ha => by subst ha; constructor <;> decide)
theorem sRdg_isDigit {c : Int} : qP m_Rdg_isDigit [qI c] (qT0, m, r) (qI (qbi (qDig c))) := by
  unfold qDig
  refine qr_il rfl rfl (w := ?_)
  refine qr_const rfl (w := ?_)
  refine qr_iclt rfl (fun hc => ?_) (fun hc => ?_)
  · refine qr_const rfl (w := ?_)
    refine qW_zreturn rfl (by first | exact Or.inl rfl | exact Or.inr rfl | (simp only [qbi]; split <;> simp)) ?_
    refine ⟨congrArg qI ?_, rfl⟩
    simp only [qbi]
    first | (rw [if_pos (decide_eq_true (by omega))]; done) | (rw [if_neg (fun h9 => by have := of_decide_eq_true h9; omega)]; done)
  · refine qr_il rfl rfl (w := ?_)
    refine qr_const rfl (w := ?_)
    refine qr_icgt rfl (fun hcf => ?_) (fun hcf => ?_)
    · refine qr_const rfl (w := ?_)
      refine qW_zreturn rfl (by first | exact Or.inl rfl | exact Or.inr rfl | (simp only [qbi]; split <;> simp)) ?_
      refine ⟨congrArg qI ?_, rfl⟩
      simp only [qbi]
      first | (rw [if_pos (decide_eq_true (by omega))]; done) | (rw [if_neg (fun h9 => by have := of_decide_eq_true h9; omega)]; done)
    · refine qr_const rfl (w := ?_)
      refine qr_goto rfl (w := ?_)
      refine qW_zreturn rfl (by first | exact Or.inl rfl | exact Or.inr rfl | (simp only [qbi]; split <;> simp)) ?_
      refine ⟨congrArg qI ?_, rfl⟩
      simp only [qbi]
      first | (rw [if_pos (decide_eq_true (by omega))]; done) | (rw [if_neg (fun h9 => by have := of_decide_eq_true h9; omega)]; done)
theorem sRdg_isComplete (h : qE r) {ps : List (Int × Int)} {fs ns : List Int} {st lv op nm : Int} (hs : qRg m (ps, fs, ns, st, lv, op, nm)) : qP m_Rdg_isComplete [qK 5] (qT0, m, r) (qI (qbi (decide (st = 7)))) := by
  have e3 : m 5 3 = st := hs.2.2.2.2.1
  refine qr_al rfl rfl (w := ?_)
  refine qr_gi rfl kd_5 (w := ?_)
  refine qr_const rfl (w := ?_)
  refine qr_icne rfl (fun hc => ?_) (fun hc => ?_)
  · refine qr_const rfl (w := ?_)
    refine qW_zreturn rfl (by first | exact Or.inl rfl | exact Or.inr rfl | (simp only [qbi]; split <;> simp)) ?_
    refine ⟨congrArg qI ?_, rfl⟩
    rw [e3] at hc
    simp [qbi, hc]
  · refine qr_const rfl (w := ?_)
    refine qr_goto rfl (w := ?_)
    refine qW_zreturn rfl (by first | exact Or.inl rfl | exact Or.inr rfl | (simp only [qbi]; split <;> simp)) ?_
    refine ⟨congrArg qI ?_, rfl⟩
    rw [e3] at hc
    simp [qbi, hc]
theorem sRdg_takeSpace (h : qE r) {ps : List (Int × Int)} {fs ns : List Int} {st lv op nm : Int} (hs : qRg m (ps, fs, ns, st, lv, op, nm)) (hp : qRp (ps, fs, ns, st, lv, op, nm)) : qW m_Rdg_takeSpace 0 [qK 5] [] (qT0, m, r) (fun _ σ => ∃ m', σ = (qT0, m', r) ∧ qRg m' (qSpc (ps, fs, ns, st, lv, op, nm)) ∧ qFr (qIv 5 16) m m') := by
  obtain ⟨h1, h2, h3, h4, e3, e4, e5, e6⟩ := hs
  obtain ⟨p1, p2, p3, p4, p5, p6⟩ := hp
  dsimp only at h1 h2 h3 h4 e3 e4 e5 e6 p1 p2 p3 p4 p5 p6
  refine qr_al rfl rfl (w := ?_)
  refine qr_gi rfl kd_5 (w := ?_)
  refine qr_const rfl (w := ?_)
  refine qr_icne rfl (fun hc => ?_) (fun hc => ?_)
  · rw [e3] at hc
    first
      | (refine qW_return rfl ⟨_, rfl, ?_, qFr_5I qFr_5⟩
         simp only [qSpc, if_pos hc]
         exact qRg_5x h1 h2 h3 h4 qFr_5 (by simp [qup, e3, e4, e5, e6]) (by simp [qup, e3, e4, e5, e6]) (by simp [qup, e3, e4, e5, e6]) (by simp [qup, e3, e4, e5, e6]))
      | (refine qW_return rfl ⟨_, rfl, ?_, qFr_rf⟩
         simp only [qSpc, if_neg hc]
         exact ⟨h1, h2, h3, h4, e3, e4, e5, e6⟩)
  · refine qr_al rfl rfl (w := ?_)
    refine qr_const rfl (w := ?_)
    refine qr_pi rfl kd_5 (w := ?_)
    rw [e3] at hc
    first
      | (refine qW_return rfl ⟨_, rfl, ?_, qFr_5I qFr_5⟩
         simp only [qSpc, if_pos hc]
         exact qRg_5x h1 h2 h3 h4 qFr_5 (by simp [qup, e3, e4, e5, e6]) (by simp [qup, e3, e4, e5, e6]) (by simp [qup, e3, e4, e5, e6]) (by simp [qup, e3, e4, e5, e6]))
      | (refine qW_return rfl ⟨_, rfl, ?_, qFr_rf⟩
         simp only [qSpc, if_neg hc]
         exact ⟨h1, h2, h3, h4, e3, e4, e5, e6⟩)
theorem sRdg_takeOpening (h : qE r) {ps : List (Int × Int)} {fs ns : List Int} {st lv op nm : Int} (hs : qRg m (ps, fs, ns, st, lv, op, nm)) (hp : qRp (ps, fs, ns, st, lv, op, nm)) {c br : Int} (hb : -9 ≤ br ∧ br ≤ 1000) : qW m_Rdg_takeOpening 0 [qK 5, qI c, qI br] [] (qT0, m, r) (fun x σ => ∃ m', σ = (qT0, m', r) ∧ x = qI (qbi (qOpn (ps, fs, ns, st, lv, op, nm) c br).1) ∧ qRg m' (qOpn (ps, fs, ns, st, lv, op, nm) c br).2 ∧ qFr (qIv 5 16) m m') := by
  obtain ⟨h1, h2, h3, h4, e3, e4, e5, e6⟩ := hs
  obtain ⟨p1, p2, p3, p4, p5, p6⟩ := hp
  dsimp only at h1 h2 h3 h4 e3 e4 e5 e6 p1 p2 p3 p4 p5 p6
  refine qr_il rfl rfl (w := ?_)
  refine qr_const rfl (w := ?_)
  refine qr_icne rfl (fun hc => ?_) (fun hc => ?_)
  · refine qr_const rfl (w := ?_)
    refine qW_zreturn rfl (by first | exact Or.inl rfl | exact Or.inr rfl | (simp only [qbi]; split <;> simp)) ?_
    first
      | (rw [e4] at hcf
         refine ⟨_, rfl, ?_, ?_, qFr_rf⟩
         · simp only [qOpn]
           rw [if_pos (by omega)]
           rfl
         · simp only [qOpn]
           rw [if_pos (by omega)]
           exact ⟨h1, h2, h3, h4, e3, e4, e5, e6⟩)
      | (refine ⟨_, rfl, ?_, ?_, qFr_rf⟩
         · simp only [qOpn]
           rw [if_pos (by omega)]
           rfl
         · simp only [qOpn]
           rw [if_pos (by omega)]
           exact ⟨h1, h2, h3, h4, e3, e4, e5, e6⟩)
      | (rw [e4] at hcf
         refine ⟨_, rfl, ?_, ?_, qFr_tr (qFr_mo hf1 (fun a ha => ⟨by have := ha.1; omega, by have := ha.2; omega⟩)) (qFr_5I (qFr_tr qFr_5 (qFr_tr qFr_5 qFr_5)))⟩
         · simp only [qOpn]
           rw [if_neg (by omega)]
           rfl
         · simp only [qOpn]
           rw [if_neg (by omega), if_neg (by omega)]
           exact qRg_5x h1 h2 h3 h4 (qFr_tr qFr_5 (qFr_tr qFr_5 qFr_5)) (by simp [qup, hm5, e3, e4, e5, e6]) (by simp [qup, hm5, e3, e4, e5, e6]) (by simp [qup, hm5, e3, e4, e5, e6]) (by simp [qup, hm5, e3, e4, e5, e6]))
      | (rw [e4] at hcf
         refine ⟨_, rfl, ?_, ?_, qFr_5I (qFr_tr qFr_5 (qFr_tr qFr_5 qFr_5))⟩
         · simp only [qOpn]
           rw [if_neg (by omega)]
           rfl
         · simp only [qOpn]
           rw [if_neg (by omega), if_pos (by omega)]
           exact qRg_5x h1 h2 h3 h4 (qFr_tr qFr_5 (qFr_tr qFr_5 qFr_5)) (by simp [qup, e3, e4, e5, e6]) (by simp [qup, e3, e4, e5, e6]) (by simp [qup, e3, e4, e5, e6]) (by simp [qup, e3, e4, e5, e6]))
  · refine qr_al rfl rfl (w := ?_)
    refine qr_gi rfl kd_5 (w := ?_)
    refine qr_const rfl (w := ?_)
    refine qr_iclt rfl (fun hcf => ?_) (fun hcf => ?_)
    · refine qr_il rfl rfl (w := ?_)
      refine qr_const rfl (w := ?_)
      refine qr_iceq rfl (fun hcft => ?_) (fun hcft => ?_)
      · refine qr_al rfl rfl (w := ?_)
        refine qr_il rfl rfl (w := ?_)
        refine qr_pi rfl kd_5 (w := ?_)
        refine qr_al rfl rfl (w := ?_)
        refine qr_dup rfl (w := ?_)
        refine qr_gi rfl kd_5 (w := ?_)
        refine qr_const rfl (w := ?_)
        refine qr_add rfl (by first | omega | (rw [qup_i (by decide), e4]; omega) | (rw [qup_i (by decide), hm5, e4]; omega)) (w := ?_)
        refine qr_pi rfl kd_5 (w := ?_)
        refine qr_al rfl rfl (w := ?_)
        refine qr_const rfl (w := ?_)
        refine qr_pi rfl kd_5 (w := ?_)
        refine qr_const rfl (w := ?_)
        refine qW_zreturn rfl (by first | exact Or.inl rfl | exact Or.inr rfl | (simp only [qbi]; split <;> simp)) ?_
        first
          | (rw [e4] at hcf
             refine ⟨_, rfl, ?_, ?_, qFr_rf⟩
             · simp only [qOpn]
               rw [if_pos (by omega)]
               rfl
             · simp only [qOpn]
               rw [if_pos (by omega)]
               exact ⟨h1, h2, h3, h4, e3, e4, e5, e6⟩)
          | (refine ⟨_, rfl, ?_, ?_, qFr_rf⟩
             · simp only [qOpn]
               rw [if_pos (by omega)]
               rfl
             · simp only [qOpn]
               rw [if_pos (by omega)]
               exact ⟨h1, h2, h3, h4, e3, e4, e5, e6⟩)
          | (rw [e4] at hcf
             refine ⟨_, rfl, ?_, ?_, qFr_tr (qFr_mo hf1 (fun a ha => ⟨by have := ha.1; omega, by have := ha.2; omega⟩)) (qFr_5I (qFr_tr qFr_5 (qFr_tr qFr_5 qFr_5)))⟩
             · simp only [qOpn]
               rw [if_neg (by omega)]
               rfl
             · simp only [qOpn]
               rw [if_neg (by omega), if_neg (by omega)]
               exact qRg_5x h1 h2 h3 h4 (qFr_tr qFr_5 (qFr_tr qFr_5 qFr_5)) (by simp [qup, hm5, e3, e4, e5, e6]) (by simp [qup, hm5, e3, e4, e5, e6]) (by simp [qup, hm5, e3, e4, e5, e6]) (by simp [qup, hm5, e3, e4, e5, e6]))
          | (rw [e4] at hcf
             refine ⟨_, rfl, ?_, ?_, qFr_5I (qFr_tr qFr_5 (qFr_tr qFr_5 qFr_5))⟩
             · simp only [qOpn]
               rw [if_neg (by omega)]
               rfl
             · simp only [qOpn]
               rw [if_neg (by omega), if_pos (by omega)]
               exact qRg_5x h1 h2 h3 h4 (qFr_tr qFr_5 (qFr_tr qFr_5 qFr_5)) (by simp [qup, e3, e4, e5, e6]) (by simp [qup, e3, e4, e5, e6]) (by simp [qup, e3, e4, e5, e6]) (by simp [qup, e3, e4, e5, e6]))
      · refine qr_al rfl rfl (w := ?_)
        refine qr_gr rfl kd_5 (hr := (rf_3_1 h)) (w := ?_)
        refine qr_const rfl (w := ?_)
        refine qr_il rfl rfl (w := ?_)
        refine qr_add rfl (by first | omega | (rw [qup_i (by decide), e4]; omega) | (rw [qup_i (by decide), hm5, e4]; omega)) (w := ?_)
        refine qr_callV rfl (sForm_add (kForm h) h2 p2) (qrcv1 kd_11) (w := fun _ σ hσ => ?_)
        obtain ⟨m1, rfl, h2, hf1⟩ := hσ
        have hm5 : m1 5 = m 5 := hf1 5 (by decide)
        have h1 : qPh m1 6 ps := qPh_fr h1 hf1 (fun a g1 g2 => by show ¬ (11 ≤ a ∧ a < 14); omega)
        have h3 : qRw m1 14 ns := qRw_fr h3 hf1 (by decide) (by decide)
        refine qr_al rfl rfl (w := ?_)
        refine qr_il rfl rfl (w := ?_)
        refine qr_pi rfl kd_5 (w := ?_)
        refine qr_al rfl rfl (w := ?_)
        refine qr_dup rfl (w := ?_)
        refine qr_gi rfl kd_5 (w := ?_)
        refine qr_const rfl (w := ?_)
        refine qr_add rfl (by first | omega | (rw [qup_i (by decide), e4]; omega) | (rw [qup_i (by decide), hm5, e4]; omega)) (w := ?_)
        refine qr_pi rfl kd_5 (w := ?_)
        refine qr_al rfl rfl (w := ?_)
        refine qr_const rfl (w := ?_)
        refine qr_pi rfl kd_5 (w := ?_)
        refine qr_const rfl (w := ?_)
        refine qW_zreturn rfl (by first | exact Or.inl rfl | exact Or.inr rfl | (simp only [qbi]; split <;> simp)) ?_
        first
          | (rw [e4] at hcf
             refine ⟨_, rfl, ?_, ?_, qFr_rf⟩
             · simp only [qOpn]
               rw [if_pos (by omega)]
               rfl
             · simp only [qOpn]
               rw [if_pos (by omega)]
               exact ⟨h1, h2, h3, h4, e3, e4, e5, e6⟩)
          | (refine ⟨_, rfl, ?_, ?_, qFr_rf⟩
             · simp only [qOpn]
               rw [if_pos (by omega)]
               rfl
             · simp only [qOpn]
               rw [if_pos (by omega)]
               exact ⟨h1, h2, h3, h4, e3, e4, e5, e6⟩)
          | (rw [e4] at hcf
             refine ⟨_, rfl, ?_, ?_, qFr_tr (qFr_mo hf1 (fun a ha => ⟨by have := ha.1; omega, by have := ha.2; omega⟩)) (qFr_5I (qFr_tr qFr_5 (qFr_tr qFr_5 qFr_5)))⟩
             · simp only [qOpn]
               rw [if_neg (by omega)]
               rfl
             · simp only [qOpn]
               rw [if_neg (by omega), if_neg (by omega)]
               exact qRg_5x h1 h2 h3 h4 (qFr_tr qFr_5 (qFr_tr qFr_5 qFr_5)) (by simp [qup, hm5, e3, e4, e5, e6]) (by simp [qup, hm5, e3, e4, e5, e6]) (by simp [qup, hm5, e3, e4, e5, e6]) (by simp [qup, hm5, e3, e4, e5, e6]))
          | (rw [e4] at hcf
             refine ⟨_, rfl, ?_, ?_, qFr_5I (qFr_tr qFr_5 (qFr_tr qFr_5 qFr_5))⟩
             · simp only [qOpn]
               rw [if_neg (by omega)]
               rfl
             · simp only [qOpn]
               rw [if_neg (by omega), if_pos (by omega)]
               exact qRg_5x h1 h2 h3 h4 (qFr_tr qFr_5 (qFr_tr qFr_5 qFr_5)) (by simp [qup, e3, e4, e5, e6]) (by simp [qup, e3, e4, e5, e6]) (by simp [qup, e3, e4, e5, e6]) (by simp [qup, e3, e4, e5, e6]))
    · refine qr_const rfl (w := ?_)
      refine qW_zreturn rfl (by first | exact Or.inl rfl | exact Or.inr rfl | (simp only [qbi]; split <;> simp)) ?_
      first
        | (rw [e4] at hcf
           refine ⟨_, rfl, ?_, ?_, qFr_rf⟩
           · simp only [qOpn]
             rw [if_pos (by omega)]
             rfl
           · simp only [qOpn]
             rw [if_pos (by omega)]
             exact ⟨h1, h2, h3, h4, e3, e4, e5, e6⟩)
        | (refine ⟨_, rfl, ?_, ?_, qFr_rf⟩
           · simp only [qOpn]
             rw [if_pos (by omega)]
             rfl
           · simp only [qOpn]
             rw [if_pos (by omega)]
             exact ⟨h1, h2, h3, h4, e3, e4, e5, e6⟩)
        | (rw [e4] at hcf
           refine ⟨_, rfl, ?_, ?_, qFr_tr (qFr_mo hf1 (fun a ha => ⟨by have := ha.1; omega, by have := ha.2; omega⟩)) (qFr_5I (qFr_tr qFr_5 (qFr_tr qFr_5 qFr_5)))⟩
           · simp only [qOpn]
             rw [if_neg (by omega)]
             rfl
           · simp only [qOpn]
             rw [if_neg (by omega), if_neg (by omega)]
             exact qRg_5x h1 h2 h3 h4 (qFr_tr qFr_5 (qFr_tr qFr_5 qFr_5)) (by simp [qup, hm5, e3, e4, e5, e6]) (by simp [qup, hm5, e3, e4, e5, e6]) (by simp [qup, hm5, e3, e4, e5, e6]) (by simp [qup, hm5, e3, e4, e5, e6]))
        | (rw [e4] at hcf
           refine ⟨_, rfl, ?_, ?_, qFr_5I (qFr_tr qFr_5 (qFr_tr qFr_5 qFr_5))⟩
           · simp only [qOpn]
             rw [if_neg (by omega)]
             rfl
           · simp only [qOpn]
             rw [if_neg (by omega), if_pos (by omega)]
             exact qRg_5x h1 h2 h3 h4 (qFr_tr qFr_5 (qFr_tr qFr_5 qFr_5)) (by simp [qup, e3, e4, e5, e6]) (by simp [qup, e3, e4, e5, e6]) (by simp [qup, e3, e4, e5, e6]) (by simp [qup, e3, e4, e5, e6]))
theorem sRdg_takeClosing (h : qE r) {ps : List (Int × Int)} {fs ns : List Int} {st lv op nm : Int} (hs : qRg m (ps, fs, ns, st, lv, op, nm)) (hp : qRp (ps, fs, ns, st, lv, op, nm)) : qW m_Rdg_takeClosing 0 [qK 5] [] (qT0, m, r) (fun x σ => ∃ m', σ = (qT0, m', r) ∧ x = qI (qbi (qCls (ps, fs, ns, st, lv, op, nm)).1) ∧ qRg m' (qCls (ps, fs, ns, st, lv, op, nm)).2 ∧ qFr (qIv 5 16) m m') := by
  obtain ⟨h1, h2, h3, h4, e3, e4, e5, e6⟩ := hs
  obtain ⟨p1, p2, p3, p4, p5, p6⟩ := hp
  dsimp only at h1 h2 h3 h4 e3 e4 e5 e6 p1 p2 p3 p4 p5 p6
  refine qr_al rfl rfl (w := ?_)
  refine qr_al rfl rfl (w := ?_)
  refine qr_gr rfl kd_5 (hr := (rf_3_0 h)) (w := ?_)
  refine qr_al rfl rfl (w := ?_)
  refine qr_gi rfl kd_5 (w := ?_)
  refine qr_callP rfl (sPaths_outerOf (kPaths h) h1) (qrcv1 kd_6) (w := ?_)
  refine qr_pi rfl kd_5 (w := ?_)
  refine qr_al rfl rfl (w := ?_)
  refine qr_dup rfl (w := ?_)
  refine qr_gi rfl kd_5 (w := ?_)
  refine qr_const rfl (w := ?_)
  refine qr_sub rfl (by first | omega | (rw [qup_i (by decide), e4]; omega)) (w := ?_)
  refine qr_pi rfl kd_5 (w := ?_)
  refine qr_al rfl rfl (w := ?_)
  refine qr_al rfl rfl (w := ?_)
  refine qr_gi rfl kd_5 (w := ?_)
  refine qr_ifne rfl (fun hc => ?_) (fun hc => ?_)
  · refine qr_const rfl (w := ?_)
    refine qr_pi rfl kd_5 (w := ?_)
    refine qr_const rfl (w := ?_)
    refine qW_zreturn rfl (by first | exact Or.inl rfl | exact Or.inr rfl | (simp only [qbi]; split <;> simp)) ?_
    rw [qup_s, qup_i (by decide), e4] at hc
    refine ⟨_, rfl, rfl, ?_, qFr_5I (qFr_tr qFr_5 (qFr_tr qFr_5 qFr_5))⟩
    simp only [qCls]
    first | rw [if_pos (by omega)] | rw [if_neg (by omega)]
    exact qRg_5x h1 h2 h3 h4 (qFr_tr qFr_5 (qFr_tr qFr_5 qFr_5)) (by simp [qup, e3, e4, e5, e6]) (by simp [qup, e3, e4, e5, e6]) (by simp [qup, e3, e4, e5, e6]) (by simp [qup, e3, e4, e5, e6])
  · refine qr_const rfl (w := ?_)
    refine qr_goto rfl (w := ?_)
    refine qr_pi rfl kd_5 (w := ?_)
    refine qr_const rfl (w := ?_)
    refine qW_zreturn rfl (by first | exact Or.inl rfl | exact Or.inr rfl | (simp only [qbi]; split <;> simp)) ?_
    rw [qup_s, qup_i (by decide), e4] at hc
    refine ⟨_, rfl, rfl, ?_, qFr_5I (qFr_tr qFr_5 (qFr_tr qFr_5 qFr_5))⟩
    simp only [qCls]
    first | rw [if_pos (by omega)] | rw [if_neg (by omega)]
    exact qRg_5x h1 h2 h3 h4 (qFr_tr qFr_5 (qFr_tr qFr_5 qFr_5)) (by simp [qup, e3, e4, e5, e6]) (by simp [qup, e3, e4, e5, e6]) (by simp [qup, e3, e4, e5, e6]) (by simp [qup, e3, e4, e5, e6])
theorem sRdg_takeLetter (h : qE r) {ps : List (Int × Int)} {fs ns : List Int} {st lv op nm : Int} (hs : qRg m (ps, fs, ns, st, lv, op, nm)) (hp : qRp (ps, fs, ns, st, lv, op, nm)) {c : Int} : qW m_Rdg_takeLetter 0 [qK 5, qI c] [] (qT0, m, r) (fun x σ => ∃ m', σ = (qT0, m', r) ∧ x = qI (qbi (qLet (ps, fs, ns, st, lv, op, nm) c).1) ∧ qRg m' (qLet (ps, fs, ns, st, lv, op, nm) c).2 ∧ qFr (qIv 5 16) m m') := by
  obtain ⟨h1, h2, h3, h4, e3, e4, e5, e6⟩ := hs
  obtain ⟨p1, p2, p3, p4, p5, p6⟩ := hp
  dsimp only at h1 h2 h3 h4 e3 e4 e5 e6 p1 p2 p3 p4 p5 p6
  have hle := qFi_le ps c op 0
  refine qr_il rfl rfl (w := ?_)
  refine qr_const rfl (w := ?_)
  refine qr_iclt rfl (fun hc => ?_) (fun hc => ?_)
  · refine qr_const rfl (w := ?_)
    refine qW_zreturn rfl (by first | exact Or.inl rfl | exact Or.inr rfl | (simp only [qbi]; split <;> simp)) ?_
    first
      | (refine ⟨_, rfl, ?_, ?_, qFr_rf⟩
         · simp only [qLet]
           rw [if_pos (by omega)]
           rfl
         · simp only [qLet]
           rw [if_pos (by omega)]
           exact ⟨h1, h2, h3, h4, e3, e4, e5, e6⟩)
      | (refine ⟨_, rfl, ?_, ?_, qFr_tr (qFr_mo hf1 (fun a ha => ⟨by have := ha.1; omega, by have := ha.2; omega⟩)) (qFr_5I F)⟩
         · simp only [qLet]
           rw [if_neg (by omega)]
           first
             | (simp only [hcft, hcftf, Bool.not_true, Bool.not_false, Bool.and_true, Bool.and_false, Bool.true_and, Bool.false_and]; rfl)
             | (simp only [hcft, Bool.not_true, Bool.not_false, Bool.and_true, Bool.and_false, Bool.true_and, Bool.false_and]; rfl)
         · simp only [qLet]
           rw [if_neg (by omega)]
           exact qRg_5x h1 h2 h3 h4 F (by simp [qup, hm5, e3, e4, e5, e6]) (by simp [qup, hm5, e3, e4, e5, e6]) (by simp [qup, hm5, e3, e4, e5, e6]) (by simp [qup]))
  · refine qr_il rfl rfl (w := ?_)
    refine qr_const rfl (w := ?_)
    refine qr_icle rfl (fun hcf => ?_) (fun hcf => ?_)
    · refine qr_al rfl rfl (w := ?_)
      refine qr_al rfl rfl (w := ?_)
      refine qr_gr rfl kd_5 (hr := (rf_3_0 h)) (w := ?_)
      refine qr_il rfl rfl (w := ?_)
      refine qr_al rfl rfl (w := ?_)
      refine qr_gi rfl kd_5 (w := ?_)
      rw [e5]
      refine qr_callA rfl (sPaths_findOrAdd (l := c) (u := op) (kPaths h) h1 p1) (qrcv1 kd_6) (w := fun _ σ hσ => ?_)
      obtain ⟨m1, rfl, rfl, h1, hf1⟩ := hσ
      have hm5 : m1 5 = m 5 := hf1 5 (by decide)
      have h2 : qFm m1 11 fs := qFm_fr h2 hf1 (by decide) (by decide) (by decide)
      have h3 : qRw m1 14 ns := qRw_fr h3 hf1 (by decide) (by decide)
      have F := qFr_tr (qFr_5 (m := m1) (i := 6) (x := (qFi ps c op 0 : Nat))) (qFr_5 (i := 3) (x := 3))
      have h2b := qFm_fr h2 F (by decide) (by decide) (by decide)
      refine qr_pi rfl kd_5 (w := ?_)
      refine qr_al rfl rfl (w := ?_)
      refine qr_const rfl (w := ?_)
      refine qr_pi rfl kd_5 (w := ?_)
      refine qr_al rfl rfl (w := ?_)
      refine qr_gr rfl kd_5 (hr := (rf_3_1 h)) (w := ?_)
      refine qr_al rfl rfl (w := ?_)
      refine qr_gi rfl kd_5 (w := ?_)
      rw [qup_i (by decide), qup_s]
      refine qr_callP rfl (sForm_holds (kForm h) h2b) (qrcv1 kd_11) (w := ?_)
      refine qr_ifneB rfl (fun hcft => ?_) (fun hcft => ?_)
      · refine qr_const rfl (w := ?_)
        refine qW_zreturn rfl (by first | exact Or.inl rfl | exact Or.inr rfl | (simp only [qbi]; split <;> simp)) ?_
        first
          | (refine ⟨_, rfl, ?_, ?_, qFr_rf⟩
             · simp only [qLet]
               rw [if_pos (by omega)]
               rfl
             · simp only [qLet]
               rw [if_pos (by omega)]
               exact ⟨h1, h2, h3, h4, e3, e4, e5, e6⟩)
          | (refine ⟨_, rfl, ?_, ?_, qFr_tr (qFr_mo hf1 (fun a ha => ⟨by have := ha.1; omega, by have := ha.2; omega⟩)) (qFr_5I F)⟩
             · simp only [qLet]
               rw [if_neg (by omega)]
               first
                 | (simp only [hcft, hcftf, Bool.not_true, Bool.not_false, Bool.and_true, Bool.and_false, Bool.true_and, Bool.false_and]; rfl)
                 | (simp only [hcft, Bool.not_true, Bool.not_false, Bool.and_true, Bool.and_false, Bool.true_and, Bool.false_and]; rfl)
             · simp only [qLet]
               rw [if_neg (by omega)]
               exact qRg_5x h1 h2 h3 h4 F (by simp [qup, hm5, e3, e4, e5, e6]) (by simp [qup, hm5, e3, e4, e5, e6]) (by simp [qup, hm5, e3, e4, e5, e6]) (by simp [qup]))
      · refine qr_al rfl rfl (w := ?_)
        refine qr_gr rfl kd_5 (hr := (rf_3_1 h)) (w := ?_)
        refine qr_const rfl (w := ?_)
        refine qr_al rfl rfl (w := ?_)
        refine qr_gi rfl kd_5 (w := ?_)
        refine qr_add rfl (by first | omega | (rw [qup_i (by decide), qup_s]; omega)) (w := ?_)
        rw [qup_i (by decide), qup_s]
        refine qr_callP rfl (sForm_holds (kForm h) h2b) (qrcv1 kd_11) (w := ?_)
        refine qr_ifneB rfl (fun hcftf => ?_) (fun hcftf => ?_)
        · refine qr_const rfl (w := ?_)
          refine qW_zreturn rfl (by first | exact Or.inl rfl | exact Or.inr rfl | (simp only [qbi]; split <;> simp)) ?_
          first
            | (refine ⟨_, rfl, ?_, ?_, qFr_rf⟩
               · simp only [qLet]
                 rw [if_pos (by omega)]
                 rfl
               · simp only [qLet]
                 rw [if_pos (by omega)]
                 exact ⟨h1, h2, h3, h4, e3, e4, e5, e6⟩)
            | (refine ⟨_, rfl, ?_, ?_, qFr_tr (qFr_mo hf1 (fun a ha => ⟨by have := ha.1; omega, by have := ha.2; omega⟩)) (qFr_5I F)⟩
               · simp only [qLet]
                 rw [if_neg (by omega)]
                 first
                   | (simp only [hcft, hcftf, Bool.not_true, Bool.not_false, Bool.and_true, Bool.and_false, Bool.true_and, Bool.false_and]; rfl)
                   | (simp only [hcft, Bool.not_true, Bool.not_false, Bool.and_true, Bool.and_false, Bool.true_and, Bool.false_and]; rfl)
               · simp only [qLet]
                 rw [if_neg (by omega)]
                 exact qRg_5x h1 h2 h3 h4 F (by simp [qup, hm5, e3, e4, e5, e6]) (by simp [qup, hm5, e3, e4, e5, e6]) (by simp [qup, hm5, e3, e4, e5, e6]) (by simp [qup]))
        · refine qr_const rfl (w := ?_)
          refine qr_goto rfl (w := ?_)
          refine qW_zreturn rfl (by first | exact Or.inl rfl | exact Or.inr rfl | (simp only [qbi]; split <;> simp)) ?_
          first
            | (refine ⟨_, rfl, ?_, ?_, qFr_rf⟩
               · simp only [qLet]
                 rw [if_pos (by omega)]
                 rfl
               · simp only [qLet]
                 rw [if_pos (by omega)]
                 exact ⟨h1, h2, h3, h4, e3, e4, e5, e6⟩)
            | (refine ⟨_, rfl, ?_, ?_, qFr_tr (qFr_mo hf1 (fun a ha => ⟨by have := ha.1; omega, by have := ha.2; omega⟩)) (qFr_5I F)⟩
               · simp only [qLet]
                 rw [if_neg (by omega)]
                 first
                   | (simp only [hcft, hcftf, Bool.not_true, Bool.not_false, Bool.and_true, Bool.and_false, Bool.true_and, Bool.false_and]; rfl)
                   | (simp only [hcft, Bool.not_true, Bool.not_false, Bool.and_true, Bool.and_false, Bool.true_and, Bool.false_and]; rfl)
               · simp only [qLet]
                 rw [if_neg (by omega)]
                 exact qRg_5x h1 h2 h3 h4 F (by simp [qup, hm5, e3, e4, e5, e6]) (by simp [qup, hm5, e3, e4, e5, e6]) (by simp [qup, hm5, e3, e4, e5, e6]) (by simp [qup]))
    · refine qr_const rfl (w := ?_)
      refine qW_zreturn rfl (by first | exact Or.inl rfl | exact Or.inr rfl | (simp only [qbi]; split <;> simp)) ?_
      first
        | (refine ⟨_, rfl, ?_, ?_, qFr_rf⟩
           · simp only [qLet]
             rw [if_pos (by omega)]
             rfl
           · simp only [qLet]
             rw [if_pos (by omega)]
             exact ⟨h1, h2, h3, h4, e3, e4, e5, e6⟩)
        | (refine ⟨_, rfl, ?_, ?_, qFr_tr (qFr_mo hf1 (fun a ha => ⟨by have := ha.1; omega, by have := ha.2; omega⟩)) (qFr_5I F)⟩
           · simp only [qLet]
             rw [if_neg (by omega)]
             first
               | (simp only [hcft, hcftf, Bool.not_true, Bool.not_false, Bool.and_true, Bool.and_false, Bool.true_and, Bool.false_and]; rfl)
               | (simp only [hcft, Bool.not_true, Bool.not_false, Bool.and_true, Bool.and_false, Bool.true_and, Bool.false_and]; rfl)
           · simp only [qLet]
             rw [if_neg (by omega)]
             exact qRg_5x h1 h2 h3 h4 F (by simp [qup, hm5, e3, e4, e5, e6]) (by simp [qup, hm5, e3, e4, e5, e6]) (by simp [qup, hm5, e3, e4, e5, e6]) (by simp [qup]))
theorem sRdg_takeColon (h : qE r) {ps : List (Int × Int)} {fs ns : List Int} {st lv op nm : Int} (hs : qRg m (ps, fs, ns, st, lv, op, nm)) (hp : qRp (ps, fs, ns, st, lv, op, nm)) {c : Int} : qW m_Rdg_takeColon 0 [qK 5, qI c] [] (qT0, m, r) (fun x σ => ∃ m', σ = (qT0, m', r) ∧ x = qI (qbi (qCol (ps, fs, ns, st, lv, op, nm) c).1) ∧ qRg m' (qCol (ps, fs, ns, st, lv, op, nm) c).2 ∧ qFr (qIv 5 16) m m') := by
  obtain ⟨h1, h2, h3, h4, e3, e4, e5, e6⟩ := hs
  obtain ⟨p1, p2, p3, p4, p5, p6⟩ := hp
  dsimp only at h1 h2 h3 h4 e3 e4 e5 e6 p1 p2 p3 p4 p5 p6
  refine qr_al rfl rfl (w := ?_)
  refine qr_const rfl (w := ?_)
  refine qr_pi rfl kd_5 (w := ?_)
  refine qr_il rfl rfl (w := ?_)
  refine qr_const rfl (w := ?_)
  refine qr_icne rfl (fun hc => ?_) (fun hc => ?_)
  · refine qr_const rfl (w := ?_)
    refine qW_zreturn rfl (by first | exact Or.inl rfl | exact Or.inr rfl | (simp only [qbi]; split <;> simp)) ?_
    refine ⟨_, rfl, ?_, ?_, qFr_5I qFr_5⟩
    · simp [qCol, qbi, hc]
    · exact qRg_5x h1 h2 h3 h4 qFr_5 (by simp [qup, e3, e4, e5, e6]) (by simp [qup, e3, e4, e5, e6]) (by simp [qup, e3, e4, e5, e6]) (by simp [qup, e3, e4, e5, e6])
  · refine qr_const rfl (w := ?_)
    refine qr_goto rfl (w := ?_)
    refine qW_zreturn rfl (by first | exact Or.inl rfl | exact Or.inr rfl | (simp only [qbi]; split <;> simp)) ?_
    refine ⟨_, rfl, ?_, ?_, qFr_5I qFr_5⟩
    · simp [qCol, qbi, hc]
    · exact qRg_5x h1 h2 h3 h4 qFr_5 (by simp [qup, e3, e4, e5, e6]) (by simp [qup, e3, e4, e5, e6]) (by simp [qup, e3, e4, e5, e6]) (by simp [qup, e3, e4, e5, e6])
theorem sRdg_takeFirstDigit (h : qE r) {ps : List (Int × Int)} {fs ns : List Int} {st lv op nm : Int} (hs : qRg m (ps, fs, ns, st, lv, op, nm)) (hp : qRp (ps, fs, ns, st, lv, op, nm)) {c : Int} (hc0 : 48 ≤ c ∧ c ≤ 57) : qW m_Rdg_takeFirstDigit 0 [qK 5, qI c] [] (qT0, m, r) (fun x σ => ∃ m', σ = (qT0, m', r) ∧ x = qI (qbi (qDg1 (ps, fs, ns, st, lv, op, nm) c).1) ∧ qRg m' (qDg1 (ps, fs, ns, st, lv, op, nm) c).2 ∧ qFr (qIv 5 16) m m') := by
  obtain ⟨h1, h2, h3, h4, e3, e4, e5, e6⟩ := hs
  obtain ⟨p1, p2, p3, p4, p5, p6⟩ := hp
  dsimp only at h1 h2 h3 h4 e3 e4 e5 e6 p1 p2 p3 p4 p5 p6
  refine qr_al rfl rfl (w := ?_)
  refine qr_gr rfl kd_5 (hr := (rf_3_2 h)) (w := ?_)
  refine qr_callP rfl (sRow_len (kNums h) h3) (qrcv1 (kNums h).1) (w := ?_)
  refine qr_const rfl (w := ?_)
  refine qr_iclt rfl (fun hc => ?_) (fun hc => ?_)
  · refine qr_al rfl rfl (w := ?_)
    refine qr_gr rfl kd_5 (hr := (rf_3_1 h)) (w := ?_)
    refine qr_al rfl rfl (w := ?_)
    refine qr_gi rfl kd_5 (w := ?_)
    rw [e6]
    refine qr_callV rfl (sForm_add (kForm h) h2 p2) (qrcv1 kd_11) (w := fun _ σ hσ => ?_)
    obtain ⟨m1, rfl, h2, hf1⟩ := hσ
    have hm5 : m1 5 = m 5 := hf1 5 (by decide)
    have h1 : qPh m1 6 ps := qPh_fr h1 hf1 (fun a g1 g2 => by show ¬ (11 ≤ a ∧ a < 14); omega)
    have h3 : qRw m1 14 ns := qRw_fr h3 hf1 (by decide) (by decide)
    refine qr_al rfl rfl (w := ?_)
    refine qr_gr rfl kd_5 (hr := (rf_3_2 h)) (w := ?_)
    refine qr_il rfl rfl (w := ?_)
    refine qr_const rfl (w := ?_)
    refine qr_sub rfl (by omega) (w := ?_)
    refine qr_callV rfl (sRow_add (kNums h) h3 (by omega)) (qrcv1 (kNums h).1) (w := fun _ σ hσ => ?_)
    obtain ⟨m2, rfl, h3, hf2⟩ := hσ
    have hm6 : m2 5 = m 5 := (hf2 5 (by decide)).trans hm5
    have h1 : qPh m2 6 ps := qPh_fr h1 hf2 (fun a g1 g2 => by show ¬ (a = 14 ∨ a = 15); omega)
    have h2 : qFm m2 11 (fs ++ [nm]) := qFm_fr h2 hf2 (by decide) (by decide) (by decide)
    refine qr_al rfl rfl (w := ?_)
    refine qr_const rfl (w := ?_)
    refine qr_pi rfl kd_5 (w := ?_)
    refine qr_const rfl (w := ?_)
    refine qW_zreturn rfl (by first | exact Or.inl rfl | exact Or.inr rfl | (simp only [qbi]; split <;> simp)) ?_
    first
      | (refine ⟨_, rfl, ?_, ?_, qFr_rf⟩
         · simp only [qDg1]
           rw [if_pos (by omega)]
           rfl
         · simp only [qDg1]
           rw [if_pos (by omega)]
           exact ⟨h1, h2, h3, h4, e3, e4, e5, e6⟩)
      | (refine ⟨_, rfl, ?_, ?_, qFr_tr (qFr_mo hf1 (fun a ha => ⟨by have := ha.1; omega, by have := ha.2; omega⟩)) (qFr_tr (qFr_Pz hf2 (by omega) (by omega)) (qFr_5I qFr_5))⟩
         · simp only [qDg1]
           rw [if_neg (by omega)]
           rfl
         · simp only [qDg1]
           rw [if_neg (by omega)]
           exact qRg_5x h1 h2 h3 (by rw [List.length_append]; simp only [List.length_cons, List.length_nil]; omega) qFr_5 (by simp [qup, hm6, e3, e4, e5, e6]) (by simp [qup, hm6, e3, e4, e5, e6]) (by simp [qup, hm6, e3, e4, e5, e6]) (by simp [qup, hm6, e3, e4, e5, e6]))
  · refine qr_const rfl (w := ?_)
    refine qW_zreturn rfl (by first | exact Or.inl rfl | exact Or.inr rfl | (simp only [qbi]; split <;> simp)) ?_
    first
      | (refine ⟨_, rfl, ?_, ?_, qFr_rf⟩
         · simp only [qDg1]
           rw [if_pos (by omega)]
           rfl
         · simp only [qDg1]
           rw [if_pos (by omega)]
           exact ⟨h1, h2, h3, h4, e3, e4, e5, e6⟩)
      | (refine ⟨_, rfl, ?_, ?_, qFr_tr (qFr_mo hf1 (fun a ha => ⟨by have := ha.1; omega, by have := ha.2; omega⟩)) (qFr_tr (qFr_Pz hf2 (by omega) (by omega)) (qFr_5I qFr_5))⟩
         · simp only [qDg1]
           rw [if_neg (by omega)]
           rfl
         · simp only [qDg1]
           rw [if_neg (by omega)]
           exact qRg_5x h1 h2 h3 (by rw [List.length_append]; simp only [List.length_cons, List.length_nil]; omega) qFr_5 (by simp [qup, hm6, e3, e4, e5, e6]) (by simp [qup, hm6, e3, e4, e5, e6]) (by simp [qup, hm6, e3, e4, e5, e6]) (by simp [qup, hm6, e3, e4, e5, e6]))
theorem sRdg_takeNextDigit (h : qE r) {ps : List (Int × Int)} {fs ns : List Int} {st lv op nm : Int} (hs : qRg m (ps, fs, ns, st, lv, op, nm)) (hp : qRp (ps, fs, ns, st, lv, op, nm)) {c : Int} (hc0 : 48 ≤ c ∧ c ≤ 57) : qW m_Rdg_takeNextDigit 0 [qK 5, qI c, none, none] [] (qT0, m, r) (fun x σ => ∃ m', σ = (qT0, m', r) ∧ x = qI (qbi (qDg2 (ps, fs, ns, st, lv, op, nm) c).1) ∧ qRg m' (qDg2 (ps, fs, ns, st, lv, op, nm) c).2 ∧ qFr (qIv 5 16) m m') := by
  obtain ⟨h1, h2, h3, h4, e3, e4, e5, e6⟩ := hs
  obtain ⟨p1, p2, p3, p4, p5, p6⟩ := hp
  dsimp only at h1 h2 h3 h4 e3 e4 e5 e6 p1 p2 p3 p4 p5 p6
  refine qr_al rfl rfl (w := ?_)
  refine qr_gr rfl kd_5 (hr := (rf_3_2 h)) (w := ?_)
  refine qr_callP rfl (sRow_len (kNums h) h3) (qrcv1 (kNums h).1) (w := ?_)
  refine qr_const rfl (w := ?_)
  refine qr_sub rfl (by omega) (w := ?_)
  refine qr_is2 rfl (w := ?_)
  refine qr_al rfl rfl (w := ?_)
  refine qr_gr rfl kd_5 (hr := (rf_3_2 h)) (w := ?_)
  refine qr_il rfl rfl (w := ?_)
  refine qr_callP rfl (sRow_at (kNums h) h3 h4) (qrcv1 (kNums h).1) (w := ?_)
  refine qr_is3 rfl (w := ?_)
  refine qr_il rfl rfl (w := ?_)
  refine qr_ifle rfl (fun hc => ?_) (fun hc => ?_)
  · refine qr_const rfl (w := ?_)
    refine qW_zreturn rfl (by first | exact Or.inl rfl | exact Or.inr rfl | (simp only [qbi]; split <;> simp)) ?_
    first
      | (refine ⟨_, rfl, ?_, ?_, qFr_rf⟩
         · simp only [qDg2]
           rw [if_pos (by omega)]
           rfl
         · simp only [qDg2]
           rw [if_pos (by omega)]
           exact ⟨h1, h2, h3, h4, e3, e4, e5, e6⟩)
      | (refine ⟨_, rfl, ?_, ?_, qFr_Pz hf1 (by omega) (by omega)⟩
         · simp only [qDg2]
           rw [if_neg (by omega)]
           rfl
         · simp only [qDg2]
           rw [if_neg (by omega)]
           exact ⟨h1, h2, h3, by rw [List.length_set]; exact h4, by rw [hm5]; exact e3, by rw [hm5]; exact e4, by rw [hm5]; exact e5, by rw [hm5]; exact e6⟩)
  · refine qr_il rfl rfl (w := ?_)
    refine qr_const rfl (w := ?_)
    refine qr_icle rfl (fun hcf => ?_) (fun hcf => ?_)
    · refine qr_al rfl rfl (w := ?_)
      refine qr_gr rfl kd_5 (hr := (rf_3_2 h)) (w := ?_)
      refine qr_il rfl rfl (w := ?_)
      refine qr_il rfl rfl (w := ?_)
      refine qr_const rfl (w := ?_)
      refine qr_mul rfl (by omega) (w := ?_)
      refine qr_il rfl rfl (w := ?_)
      refine qr_add rfl (by omega) (w := ?_)
      refine qr_const rfl (w := ?_)
      refine qr_sub rfl (by omega) (w := ?_)
      have hin : 0 ≤ (ns.length : Int) - 1 ∧ (ns.length : Int) - 1 < ns.length := by
        refine ⟨?_, by omega⟩
        rcases Int.lt_or_le ((ns.length : Int) - 1) 0 with g | g
        · rw [qAt_neg g] at hc; omega
        · exact g
      refine qr_callV rfl (sRow_put (i := (ns.length : Int) - 1) (kNums h) h3 h4 hin) (qrcv1 (kNums h).1) (w := fun _ σ hσ => ?_)
      obtain ⟨m1, rfl, h3, hf1⟩ := hσ
      have hm5 : m1 5 = m 5 := hf1 5 (by decide)
      have h1 : qPh m1 6 ps := qPh_fr h1 hf1 (fun a g1 g2 => by show ¬ (a = 14 ∨ a = 15); omega)
      have h2 : qFm m1 11 fs := qFm_fr h2 hf1 (by decide) (by decide) (by decide)
      rw [show ((ns.length : Int) - 1).toNat = ns.length - 1 by omega] at h3
      refine qr_const rfl (w := ?_)
      refine qW_zreturn rfl (by first | exact Or.inl rfl | exact Or.inr rfl | (simp only [qbi]; split <;> simp)) ?_
      first
        | (refine ⟨_, rfl, ?_, ?_, qFr_rf⟩
           · simp only [qDg2]
             rw [if_pos (by omega)]
             rfl
           · simp only [qDg2]
             rw [if_pos (by omega)]
             exact ⟨h1, h2, h3, h4, e3, e4, e5, e6⟩)
        | (refine ⟨_, rfl, ?_, ?_, qFr_Pz hf1 (by omega) (by omega)⟩
           · simp only [qDg2]
             rw [if_neg (by omega)]
             rfl
           · simp only [qDg2]
             rw [if_neg (by omega)]
             exact ⟨h1, h2, h3, by rw [List.length_set]; exact h4, by rw [hm5]; exact e3, by rw [hm5]; exact e4, by rw [hm5]; exact e5, by rw [hm5]; exact e6⟩)
    · refine qr_const rfl (w := ?_)
      refine qW_zreturn rfl (by first | exact Or.inl rfl | exact Or.inr rfl | (simp only [qbi]; split <;> simp)) ?_
      first
        | (refine ⟨_, rfl, ?_, ?_, qFr_rf⟩
           · simp only [qDg2]
             rw [if_pos (by omega)]
             rfl
           · simp only [qDg2]
             rw [if_pos (by omega)]
             exact ⟨h1, h2, h3, h4, e3, e4, e5, e6⟩)
        | (refine ⟨_, rfl, ?_, ?_, qFr_Pz hf1 (by omega) (by omega)⟩
           · simp only [qDg2]
             rw [if_neg (by omega)]
             rfl
           · simp only [qDg2]
             rw [if_neg (by omega)]
             exact ⟨h1, h2, h3, by rw [List.length_set]; exact h4, by rw [hm5]; exact e3, by rw [hm5]; exact e4, by rw [hm5]; exact e5, by rw [hm5]; exact e6⟩)
theorem sRdg_takeFieldEnd (h : qE r) {ps : List (Int × Int)} {fs ns : List Int} {st lv op nm : Int} (hs : qRg m (ps, fs, ns, st, lv, op, nm)) (hp : qRp (ps, fs, ns, st, lv, op, nm)) {c : Int} : qW m_Rdg_takeFieldEnd 0 [qK 5, qI c] [] (qT0, m, r) (fun x σ => ∃ m', σ = (qT0, m', r) ∧ x = qI (qbi (qEnd (ps, fs, ns, st, lv, op, nm) c).1) ∧ qRg m' (qEnd (ps, fs, ns, st, lv, op, nm) c).2 ∧ qFr (qIv 5 16) m m') := by
  have hs0 := hs
  have hp0 := hp
  obtain ⟨h1, h2, h3, h4, e3, e4, e5, e6⟩ := hs
  obtain ⟨p1, p2, p3, p4, p5, p6⟩ := hp
  dsimp only at h1 h2 h3 h4 e3 e4 e5 e6 p1 p2 p3 p4 p5 p6
  refine qr_il rfl rfl (w := ?_)
  refine qr_const rfl (w := ?_)
  refine qr_icne rfl (fun hc => ?_) (fun hc => ?_)
  · refine qr_al rfl rfl (w := ?_)
    refine qr_const rfl (w := ?_)
    refine qr_pi rfl kd_5 (w := ?_)
    refine qr_il rfl rfl (w := ?_)
    refine qr_const rfl (w := ?_)
    refine qr_icne rfl (fun hct => ?_) (fun hct => ?_)
    · refine qr_const rfl (w := ?_)
      refine qW_zreturn rfl (by first | exact Or.inl rfl | exact Or.inr rfl | (simp only [qbi]; split <;> simp)) ?_
      first
        | (refine ⟨_, rfl, ?_, ?_, hf1⟩
           · simp only [qEnd]
             rw [if_pos hc]
           · simp only [qEnd]
             rw [if_pos hc]
             exact h7)
        | (refine ⟨_, rfl, ?_, ?_, qFr_5I qFr_5⟩
           · simp only [qEnd]
             rw [if_neg hc]
             simp [qbi, hct]
           · simp only [qEnd]
             rw [if_neg hc]
             exact qRg_5x h1 h2 h3 h4 qFr_5 (by simp [qup, e3, e4, e5, e6]) (by simp [qup, e3, e4, e5, e6]) (by simp [qup, e3, e4, e5, e6]) (by simp [qup, e3, e4, e5, e6]))
    · refine qr_const rfl (w := ?_)
      refine qr_goto rfl (w := ?_)
      refine qW_zreturn rfl (by first | exact Or.inl rfl | exact Or.inr rfl | (simp only [qbi]; split <;> simp)) ?_
      first
        | (refine ⟨_, rfl, ?_, ?_, hf1⟩
           · simp only [qEnd]
             rw [if_pos hc]
           · simp only [qEnd]
             rw [if_pos hc]
             exact h7)
        | (refine ⟨_, rfl, ?_, ?_, qFr_5I qFr_5⟩
           · simp only [qEnd]
             rw [if_neg hc]
             simp [qbi, hct]
           · simp only [qEnd]
             rw [if_neg hc]
             exact qRg_5x h1 h2 h3 h4 qFr_5 (by simp [qup, e3, e4, e5, e6]) (by simp [qup, e3, e4, e5, e6]) (by simp [qup, e3, e4, e5, e6]) (by simp [qup, e3, e4, e5, e6]))
  · refine qr_al rfl rfl (w := ?_)
    refine qr_callA rfl (sRdg_takeClosing h hs0 hp0) (qrcv1 kd_5) (w := fun _ σ hσ => ?_)
    obtain ⟨m1, rfl, rfl, h7, hf1⟩ := hσ
    refine qW_zreturn rfl (by first | exact Or.inl rfl | exact Or.inr rfl | (simp only [qbi]; split <;> simp)) ?_
    first
      | (refine ⟨_, rfl, ?_, ?_, hf1⟩
         · simp only [qEnd]
           rw [if_pos hc]
         · simp only [qEnd]
           rw [if_pos hc]
           exact h7)
      | (refine ⟨_, rfl, ?_, ?_, qFr_5I qFr_5⟩
         · simp only [qEnd]
           rw [if_neg hc]
           simp [qbi, hct]
         · simp only [qEnd]
           rw [if_neg hc]
           exact qRg_5x h1 h2 h3 h4 qFr_5 (by simp [qup, e3, e4, e5, e6]) (by simp [qup, e3, e4, e5, e6]) (by simp [qup, e3, e4, e5, e6]) (by simp [qup, e3, e4, e5, e6]))
theorem sRdg_begin (h : qE r) {ps : List (Int × Int)} {fs ns : List Int} {st lv op nm : Int} (hs : qRg m (ps, fs, ns, st, lv, op, nm)) {k : Nat} : qW m_Rdg_begin 0 [qK 5, qI k] [] (qT0, m, r) (fun _ σ => ∃ m', σ = (qT0, m', r) ∧ qRg m' (ps.take k, [], [], 0, 0, -9, -9) ∧ qFr (qIv 5 16) m m') := by
  obtain ⟨h1, h2, h3, h4, e3, e4, e5, e6⟩ := hs
  dsimp only at h1 h2 h3 h4 e3 e4 e5 e6
  refine qr_al rfl rfl (w := ?_)
  refine qr_gr rfl kd_5 (hr := (rf_3_0 h)) (w := ?_)
  refine qr_il rfl rfl (w := ?_)
  refine qr_callV rfl (sPaths_cutTo (k := k) (kPaths h) h1) (qrcv1 kd_6) (w := fun _ σ hσ => ?_)
  obtain ⟨m1, rfl, h1, hf1⟩ := hσ
  have h2 := qFm_fr h2 hf1 (by decide) (by decide) (by decide)
  have h3 := qRw_fr h3 hf1 (by decide) (by decide)
  refine qr_al rfl rfl (w := ?_)
  refine qr_gr rfl kd_5 (hr := (rf_3_1 h)) (w := ?_)
  refine qr_callV rfl (sForm_clear (kForm h) h2) (qrcv1 kd_11) (w := fun _ σ hσ => ?_)
  obtain ⟨m2, rfl, h2, hf2⟩ := hσ
  have h1 := qPh_fr h1 hf2 (fun a g1 g2 => by show ¬ (11 ≤ a ∧ a < 14); omega)
  have h3 := qRw_fr h3 hf2 (by decide) (by decide)
  refine qr_al rfl rfl (w := ?_)
  refine qr_gr rfl kd_5 (hr := (rf_3_2 h)) (w := ?_)
  refine qr_const rfl (w := ?_)
  refine qr_callV rfl (sRow_cut (k := 0) (kNums h) h3) (qrcv1 (kNums h).1) (w := fun _ σ hσ => ?_)
  obtain ⟨m3, rfl, h3, hf3⟩ := hσ
  have h1 := qPh_fr h1 hf3 (fun a g1 g2 => by show ¬ a = 14; omega)
  have h2 := qFm_fr h2 hf3 (by decide) (by decide) (by decide)
  rw [List.take_zero] at h3
  refine qr_al rfl rfl (w := ?_)
  refine qr_const rfl (w := ?_)
  refine qr_pi rfl kd_5 (w := ?_)
  refine qr_al rfl rfl (w := ?_)
  refine qr_const rfl (w := ?_)
  refine qr_pi rfl kd_5 (w := ?_)
  refine qr_al rfl rfl (w := ?_)
  refine qr_const rfl (w := ?_)
  refine qr_pi rfl kd_5 (w := ?_)
  refine qr_al rfl rfl (w := ?_)
  refine qr_const rfl (w := ?_)
  refine qr_pi rfl kd_5 (w := ?_)
  refine qW_return rfl ?_
  have F4 : qFr (fun a => a = 5) m3 _ := qFr_tr (qFr_5 (i := 3) (x := 0)) (qFr_tr (qFr_5 (i := 4) (x := 0)) (qFr_tr (qFr_5 (i := 5) (x := -9)) (qFr_5 (i := 6) (x := -9))))
  refine ⟨_, rfl, qRg_5x h1 h2 h3 (by simp) F4 (by simp [qup]) (by simp [qup]) (by simp [qup]) (by simp [qup]), qFr_tr (qFr_mo hf1 (fun a ha => ⟨by have := ha.1; omega, by have := ha.2; omega⟩)) (qFr_tr (qFr_mo hf2 (fun a ha => ⟨by have := ha.1; omega, by have := ha.2; omega⟩)) (qFr_tr (qFr_mo hf3 (fun a ha => by subst ha; constructor <;> decide)) (qFr_5I F4)))⟩
theorem sRdg_take (h : qE r) {ps : List (Int × Int)} {fs ns : List Int} {st lv op nm : Int} (hs : qRg m (ps, fs, ns, st, lv, op, nm)) (hp : qRp (ps, fs, ns, st, lv, op, nm)) {c : Int} : qW m_Rdg_take 0 [qK 5, qI c] [] (qT0, m, r) (fun x σ => ∃ m', σ = (qT0, m', r) ∧ x = qI (qbi (qTk (ps, fs, ns, st, lv, op, nm) c).1) ∧ qRg m' (qTk (ps, fs, ns, st, lv, op, nm) c).2 ∧ qFr (qIv 5 16) m m') := by
  have e3 := hs.2.2.2.2.1
  have e6 := hs.2.2.2.2.2.2.2
  have p5 := hp.2.2.2.2.1
  have p6 := hp.2.2.2.2.2
  dsimp only at e3 e6 p5 p6
  by_cases hsp : c = 32
  · refine qr_il rfl rfl (w := ?_)
    refine qr_const rfl (w := ?_)
    refine qr_icne rfl (fun hc => ?_) (fun hc => ?_)
    · exact absurd hsp hc
    · refine qr_al rfl rfl (w := ?_)
      refine qr_callV rfl (sRdg_takeSpace h hs hp) (qrcv1 kd_5) (w := fun _ σ hσ => ?_)
      obtain ⟨m1, rfl, h7, hf1⟩ := hσ
      refine qr_const rfl (w := ?_)
      refine qW_zreturn rfl (Or.inr rfl) ?_
      exact ⟨m1, rfl, by simp [qTk, hsp, qbi], by simp only [qTk, if_pos hsp]; exact h7, hf1⟩
  · have K : qW m_Rdg_take 12 [qK 5, qI c] [] (qT0, m, r) (fun x σ => ∃ m', σ = (qT0, m', r) ∧ x = qI (qbi (qTk (ps, fs, ns, st, lv, op, nm) c).1) ∧ qRg m' (qTk (ps, fs, ns, st, lv, op, nm) c).2 ∧ qFr (qIv 5 16) m m') := by
      by_cases e0 : st = 0
      · have e0 := e0
        rw [e0] at e3
        refine qr_al rfl rfl (w := ?_)
        refine qr_gi rfl kd_5 (w := ?_)
        rw [e3]
        refine qr_swin rfl (by decide) (t := 60) rfl (w := ?_)
        refine qr_al rfl rfl (w := ?_)
        refine qr_il rfl rfl (w := ?_)
        refine qr_const rfl (w := ?_)
        refine qr_callA rfl (sRdg_takeOpening h hs hp (c := c) (br := -9) (by decide)) (qrcv1 kd_5) (w := fun _ σ hσ => ?_)
        obtain ⟨m1, rfl, rfl, h7, hf1⟩ := hσ
        refine qW_zreturn rfl (by simp only [qbi]; split <;> simp) ?_
        have hT : qTk (ps, fs, ns, st, lv, op, nm) c = qOpn (ps, fs, ns, st, lv, op, nm) c (-9) := by
          simp only [qTk, if_neg hsp, e0, if_pos rfl]
          rfl
        rw [hT]
        exact ⟨m1, rfl, rfl, h7, hf1⟩
      by_cases e1 : st = 1
      · have e0 := e1
        rw [e1] at e3
        refine qr_al rfl rfl (w := ?_)
        refine qr_gi rfl kd_5 (w := ?_)
        rw [e3]
        refine qr_swin rfl (by decide) (t := 68) rfl (w := ?_)
        refine qr_il rfl rfl (w := ?_)
        refine qr_const rfl (w := ?_)
        refine qr_icne rfl (fun hc => ?_) (fun hc => ?_)
        · refine qr_al rfl rfl (w := ?_)
          refine qr_il rfl rfl (w := ?_)
          refine qr_callA rfl (sRdg_takeLetter h hs hp) (qrcv1 kd_5) (w := fun _ σ hσ => ?_)
          obtain ⟨m1, rfl, rfl, h7, hf1⟩ := hσ
          refine qW_zreturn rfl (by simp only [qbi]; split <;> simp) ?_
          have hT : qTk (ps, fs, ns, st, lv, op, nm) c = qLet (ps, fs, ns, st, lv, op, nm) c := by
            simp only [qTk, if_neg hsp, e0, if_neg (show ¬ (1 : Int) = 0 by decide), if_pos rfl, if_neg hc]
            rfl
          rw [hT]
          exact ⟨m1, rfl, rfl, h7, hf1⟩
        · refine qr_al rfl rfl (w := ?_)
          refine qr_callA rfl (sRdg_takeClosing h hs hp) (qrcv1 kd_5) (w := fun _ σ hσ => ?_)
          obtain ⟨m1, rfl, rfl, h7, hf1⟩ := hσ
          refine qr_goto rfl (w := ?_)
          refine qW_zreturn rfl (by simp only [qbi]; split <;> simp) ?_
          have hT : qTk (ps, fs, ns, st, lv, op, nm) c = qCls (ps, fs, ns, st, lv, op, nm) := by
            simp only [qTk, if_neg hsp, e0, if_neg (show ¬ (1 : Int) = 0 by decide), if_pos rfl, if_pos hc]
            rfl
          rw [hT]
          exact ⟨m1, rfl, rfl, h7, hf1⟩
      by_cases e2 : st = 2
      · have e0 := e2
        rw [e2] at e3
        refine qr_al rfl rfl (w := ?_)
        refine qr_gi rfl kd_5 (w := ?_)
        rw [e3]
        refine qr_swin rfl (by decide) (t := 87) rfl (w := ?_)
        refine qr_al rfl rfl (w := ?_)
        refine qr_il rfl rfl (w := ?_)
        refine qr_callA rfl (sRdg_takeLetter h hs hp) (qrcv1 kd_5) (w := fun _ σ hσ => ?_)
        obtain ⟨m1, rfl, rfl, h7, hf1⟩ := hσ
        refine qW_zreturn rfl (by simp only [qbi]; split <;> simp) ?_
        have hT : qTk (ps, fs, ns, st, lv, op, nm) c = qLet (ps, fs, ns, st, lv, op, nm) c := by
          simp only [qTk, if_neg hsp, e0, if_neg (show ¬ (2 : Int) = 0 by decide), if_neg (show ¬ (2 : Int) = 1 by decide), if_pos rfl]
          rfl
        rw [hT]
        exact ⟨m1, rfl, rfl, h7, hf1⟩
      by_cases e3x : st = 3
      · have e0 := e3x
        rw [e3x] at e3
        refine qr_al rfl rfl (w := ?_)
        refine qr_gi rfl kd_5 (w := ?_)
        rw [e3]
        refine qr_swin rfl (by decide) (t := 93) rfl (w := ?_)
        refine qr_al rfl rfl (w := ?_)
        refine qr_il rfl rfl (w := ?_)
        refine qr_callA rfl (sRdg_takeColon h hs hp) (qrcv1 kd_5) (w := fun _ σ hσ => ?_)
        obtain ⟨m1, rfl, rfl, h7, hf1⟩ := hσ
        refine qW_zreturn rfl (by simp only [qbi]; split <;> simp) ?_
        have hT : qTk (ps, fs, ns, st, lv, op, nm) c = qCol (ps, fs, ns, st, lv, op, nm) c := by
          simp only [qTk, if_neg hsp, e0, if_neg (show ¬ (3 : Int) = 0 by decide), if_neg (show ¬ (3 : Int) = 1 by decide), if_neg (show ¬ (3 : Int) = 2 by decide), if_pos rfl]
          rfl
        rw [hT]
        exact ⟨m1, rfl, rfl, h7, hf1⟩
      by_cases e4 : st = 4
      · have e0 := e4
        rw [e4] at e3
        refine qr_al rfl rfl (w := ?_)
        refine qr_gi rfl kd_5 (w := ?_)
        rw [e3]
        refine qr_swin rfl (by decide) (t := 99) rfl (w := ?_)
        refine qr_il rfl rfl (w := ?_)
        refine qr_callP rfl (sRdg_isDigit) rfl (w := ?_)
        refine qr_ifeqB rfl (fun hc => ?_) (fun hc => ?_)
        · refine qr_al rfl rfl (w := ?_)
          refine qr_il rfl rfl (w := ?_)
          refine qr_al rfl rfl (w := ?_)
          refine qr_gi rfl kd_5 (w := ?_)
          rw [e6]
          refine qr_callA rfl (sRdg_takeOpening h hs hp (c := c) (br := nm) (by omega)) (qrcv1 kd_5) (w := fun _ σ hσ => ?_)
          obtain ⟨m1, rfl, rfl, h7, hf1⟩ := hσ
          refine qW_zreturn rfl (by simp only [qbi]; split <;> simp) ?_
          have hT : qTk (ps, fs, ns, st, lv, op, nm) c = qOpn (ps, fs, ns, st, lv, op, nm) c nm := by
            simp only [qTk, if_neg hsp, e0, if_neg (show ¬ (4 : Int) = 0 by decide), if_neg (show ¬ (4 : Int) = 1 by decide), if_neg (show ¬ (4 : Int) = 2 by decide), if_neg (show ¬ (4 : Int) = 3 by decide), if_pos rfl, hc, Bool.false_eq_true, if_false]
            rfl
          rw [hT]
          exact ⟨m1, rfl, rfl, h7, hf1⟩
        · refine qr_al rfl rfl (w := ?_)
          refine qr_il rfl rfl (w := ?_)
          refine qr_callA rfl (sRdg_takeFirstDigit h hs hp (of_decide_eq_true hc)) (qrcv1 kd_5) (w := fun _ σ hσ => ?_)
          obtain ⟨m1, rfl, rfl, h7, hf1⟩ := hσ
          refine qr_goto rfl (w := ?_)
          refine qW_zreturn rfl (by simp only [qbi]; split <;> simp) ?_
          have hT : qTk (ps, fs, ns, st, lv, op, nm) c = qDg1 (ps, fs, ns, st, lv, op, nm) c := by
            simp only [qTk, if_neg hsp, e0, if_neg (show ¬ (4 : Int) = 0 by decide), if_neg (show ¬ (4 : Int) = 1 by decide), if_neg (show ¬ (4 : Int) = 2 by decide), if_neg (show ¬ (4 : Int) = 3 by decide), if_pos rfl, if_pos hc]
            rfl
          rw [hT]
          exact ⟨m1, rfl, rfl, h7, hf1⟩
      by_cases e5 : st = 5
      · have e0 := e5
        rw [e5] at e3
        refine qr_al rfl rfl (w := ?_)
        refine qr_gi rfl kd_5 (w := ?_)
        rw [e3]
        refine qr_swin rfl (by decide) (t := 124) rfl (w := ?_)
        refine qr_il rfl rfl (w := ?_)
        refine qr_callP rfl (sRdg_isDigit) rfl (w := ?_)
        refine qr_ifeqB rfl (fun hc => ?_) (fun hc => ?_)
        · refine qr_al rfl rfl (w := ?_)
          refine qr_il rfl rfl (w := ?_)
          refine qr_callA rfl (sRdg_takeFieldEnd h hs hp) (qrcv1 kd_5) (w := fun _ σ hσ => ?_)
          obtain ⟨m1, rfl, rfl, h7, hf1⟩ := hσ
          refine qW_zreturn rfl (by simp only [qbi]; split <;> simp) ?_
          have hT : qTk (ps, fs, ns, st, lv, op, nm) c = qEnd (ps, fs, ns, st, lv, op, nm) c := by
            simp only [qTk, if_neg hsp, e0, if_neg (show ¬ (5 : Int) = 0 by decide), if_neg (show ¬ (5 : Int) = 1 by decide), if_neg (show ¬ (5 : Int) = 2 by decide), if_neg (show ¬ (5 : Int) = 3 by decide), if_neg (show ¬ (5 : Int) = 4 by decide), if_pos rfl, hc, Bool.false_eq_true, if_false]
            rfl
          rw [hT]
          exact ⟨m1, rfl, rfl, h7, hf1⟩
        · refine qr_al rfl rfl (w := ?_)
          refine qr_il rfl rfl (w := ?_)
          refine qr_callA rfl (sRdg_takeNextDigit h hs hp (of_decide_eq_true hc)) (qrcv1 kd_5) (w := fun _ σ hσ => ?_)
          obtain ⟨m1, rfl, rfl, h7, hf1⟩ := hσ
          refine qr_goto rfl (w := ?_)
          refine qW_zreturn rfl (by simp only [qbi]; split <;> simp) ?_
          have hT : qTk (ps, fs, ns, st, lv, op, nm) c = qDg2 (ps, fs, ns, st, lv, op, nm) c := by
            simp only [qTk, if_neg hsp, e0, if_neg (show ¬ (5 : Int) = 0 by decide), if_neg (show ¬ (5 : Int) = 1 by decide), if_neg (show ¬ (5 : Int) = 2 by decide), if_neg (show ¬ (5 : Int) = 3 by decide), if_neg (show ¬ (5 : Int) = 4 by decide), if_pos rfl, if_pos hc]
            rfl
          rw [hT]
          exact ⟨m1, rfl, rfl, h7, hf1⟩
      by_cases e6x : st = 6
      · have e0 := e6x
        rw [e6x] at e3
        refine qr_al rfl rfl (w := ?_)
        refine qr_gi rfl kd_5 (w := ?_)
        rw [e3]
        refine qr_swin rfl (by decide) (t := 145) rfl (w := ?_)
        refine qr_al rfl rfl (w := ?_)
        refine qr_il rfl rfl (w := ?_)
        refine qr_callA rfl (sRdg_takeFieldEnd h hs hp) (qrcv1 kd_5) (w := fun _ σ hσ => ?_)
        obtain ⟨m1, rfl, rfl, h7, hf1⟩ := hσ
        refine qW_zreturn rfl (by simp only [qbi]; split <;> simp) ?_
        have hT : qTk (ps, fs, ns, st, lv, op, nm) c = qEnd (ps, fs, ns, st, lv, op, nm) c := by
          simp only [qTk, if_neg hsp, e0, if_neg (show ¬ (6 : Int) = 0 by decide), if_neg (show ¬ (6 : Int) = 1 by decide), if_neg (show ¬ (6 : Int) = 2 by decide), if_neg (show ¬ (6 : Int) = 3 by decide), if_neg (show ¬ (6 : Int) = 4 by decide), if_neg (show ¬ (6 : Int) = 5 by decide), if_pos rfl]
          rfl
        rw [hT]
        exact ⟨m1, rfl, rfl, h7, hf1⟩
      refine qr_al rfl rfl (w := ?_)
      refine qr_gi rfl kd_5 (w := ?_)
      rw [e3]
      refine qr_swout rfl (by simp only [List.length_cons, List.length_nil]; omega) (w := ?_)
      refine qr_const rfl (w := ?_)
      refine qW_zreturn rfl (by first | exact Or.inl rfl | exact Or.inr rfl | (simp only [qbi]; split <;> simp)) ?_
      have hT : qTk (ps, fs, ns, st, lv, op, nm) c = (false, (ps, fs, ns, st, lv, op, nm)) := by
        simp only [qTk, if_neg hsp, if_neg e0, if_neg e1, if_neg e2, if_neg e3x, if_neg e4, if_neg e5, if_neg e6x]
      rw [hT]
      exact ⟨m, rfl, rfl, hs, qFr_rf⟩
    refine qr_il rfl rfl (w := ?_)
    refine qr_const rfl (w := ?_)
    refine qr_icne rfl (fun hc => ?_) (fun hc => ?_)
    · exact K
    · exact absurd hc hsp
